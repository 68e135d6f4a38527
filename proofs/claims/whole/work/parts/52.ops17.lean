/-! ===== the calls, side by side: ask, item, rest ===== -/
section OPS17
variable {d D : Nat} {V W X M X1 M1 : Mem} {P : Option AV → Mem → Prop} {w v m h T i j k r t u q m1 h1 s : Nat} {n n1 : NF} {a b c x y z kk ss : Int32} {B B1 : Int}
theorem xlT (hc : 0 ≤ a ∧ a ≤ 4) (hp : P (some (aI 1)) V) : Cl UX (d + 2) mX6_isSlot [aI a] V P := x_isSlot (by rw [if_pos hc]; exact hp)
theorem xlF (hc : ¬ (0 ≤ a ∧ a ≤ 4)) (hp : P (some (aI 0)) V) : Cl UX (d + 2) mX6_isSlot [aI a] V P := x_isSlot (by rw [if_neg hc]; exact hp)
theorem rlT (hc : 0 ≤ a ∧ a ≤ 4) (hp : P (some (aI 1)) V) : Cl UM (d + 2) mX7_isSlot [aI a] V P := r_isSlot (by rw [if_pos hc]; exact hp)
theorem rlF (hc : ¬ (0 ≤ a ∧ a ≤ 4)) (hp : P (some (aI 0)) V) : Cl UM (d + 2) mX7_isSlot [aI a] V P := r_isSlot (by rw [if_neg hc]; exact hp)
theorem x_finding (hs : s < 5) (h0 : V 5 s 0 = 0 → P (some (aI (-1000000011))) V) (hF : ¬ V 5 s 0 = 0 → ¬ V 5 s 0 = a → P (some (aI (-1000000012))) V) (hT : ¬ V 5 s 0 = 0 → V 5 s 0 = a → P (some (aI 0)) V) : Cl UX (d + 1) mX4_findingFor [aR 5 s, aI a] V P := by
  refine clX4_findingFor s hs a V ?_
  unfold wpX4_findingFor_0
  exact ⟨fun q => ⟨hF q, hT q⟩, h0⟩
theorem op_ask (hG : GR X M) : OP (d + 12) mX6_ask mX7_ask [aI a, aI b] X M := by
  obtain ⟨m, T, h, hN, hR⟩ := id hG
  refine clX6_ask a b X ?_
  unfold wpX6_ask_0
  have S : ∀ (a0 : Int32) (X1 : Mem), wpX7_ask_0 (Cl UM (d + 11)) a b M (fun v2 M1 => v2 = some (aI a0) ∧ GR X1 M1) → Cl UM (d + 12) mX7_ask [aR 24 0, aI a, aI b] M (fun v2 M1 => v2 = some (aI a0) ∧ GR X1 M1) := fun a0 X1 q => clX7_ask a b M q
  unfold wpX7_ask_0 at S
  by_cases hc : 0 ≤ a ∧ a ≤ 4
  · obtain ⟨s, hs, ea⟩ := in_nI (N := 4) (by omega) hc
    refine xlT hc ⟨_, rfl, t1 ?_⟩
    by_cases hc2 : 0 ≤ b ∧ b ≤ 5
    · obtain ⟨e1, e2⟩ := hR.2.2.1 s (by omega)
      refine xkT hc2 ⟨_, rfl, t2 ⟨s, ea, by omega, x_finding (by omega) (fun q => ?_) (fun q0 q1 => ?_) (fun q0 q1 => ?_)⟩⟩
      · rw [e1] at q
        exact ⟨_, rfl, fun c => absurd c (by decide), fun _ => ⟨_, rfl, S _ _ (rlT hc ⟨_, rfl, t1 (rwT hc2 ⟨_, rfl, t2 ⟨s, ea, by omega, fun c => absurd q c, fun _ => ⟨rfl, hG⟩⟩⟩)⟩)⟩⟩
      · rw [e1] at q0 q1
        exact ⟨_, rfl, fun c => absurd c (by decide), fun _ => ⟨_, rfl, S _ _ (rlT hc ⟨_, rfl, t1 (rwT hc2 ⟨_, rfl, t2 ⟨s, ea, by omega, fun _ => ⟨fun _ => ⟨rfl, hG⟩, fun c => absurd c q1⟩, fun c => absurd c q0⟩⟩)⟩)⟩⟩
      · rw [e1] at q0 q1
        have e3 : X 3 (24 + s) 0 = M 41 0 s ∧ wrt (X 3 (24 + s) 0) (X 3 (24 + s) 1) = M 42 0 s ∧ (0 ≤ (X 3 (24 + s) 0).toInt ∧ (X 3 (24 + s) 0).toInt ≤ 5) ∧ (0 ≤ (X 3 (24 + s) 1).toInt ∧ (X 3 (24 + s) 1).toInt ≤ 9) := by
          rcases e2 with z | z | z | z
          · exact absurd z q0
          · exact z.2
          · exact absurd (q1.symm.trans z.1) (by decide)
          · exact absurd (q1.symm.trans z.1) (by decide)
        obtain ⟨g1, g2, g3, g4⟩ := e3
        have R : ∀ a0, (¬ undI (M 41 0 s) b = 0 → a0 = M 42 0 s) → (undI (M 41 0 s) b = 0 → a0 = -1000000012) → Cl UM (d + 12) mX7_ask [aR 24 0, aI a, aI b] M (fun v2 M1 => v2 = some (aI a0) ∧ GR X M1) := fun a0 w1 w2 =>
          S _ _ (rlT hc ⟨_, rfl, t1 (rwT hc2 ⟨_, rfl, t2 ⟨s, ea, by omega, fun _ => ⟨fun c => absurd q1 c, fun _ => r_under ⟨_, rfl, fun c => ⟨by rw [w2 c], hG⟩, fun c => ⟨by rw [w1 c], hG⟩⟩⟩, fun c => absurd c q0⟩⟩)⟩)
        refine ⟨_, rfl, f1 (x_isOf (by omega) g3 (rng_of (l := 0) (u := 5) rfl rfl hc2) ⟨_, rfl, fun c => ⟨_, rfl, R _ (fun c2 => absurd (by rw [← g1]; exact c) c2) (fun _ => rfl)⟩, fun c => ?_⟩)⟩
        exact x_worth (by omega) (by omega) ⟨_, rfl, _, rfl, R _ (fun _ => g2) (fun c2 => absurd (by rw [g1]; exact c2) c)⟩
    · exact xkF hc2 ⟨_, rfl, f2 ⟨_, rfl, S _ _ (rlT hc ⟨_, rfl, t1 (rwF hc2 ⟨_, rfl, f2 ⟨rfl, hG⟩⟩)⟩)⟩⟩
  · exact xlF hc ⟨_, rfl, f1 ⟨_, rfl, S _ _ (rlF hc ⟨_, rfl, f1 ⟨rfl, hG⟩⟩)⟩⟩
theorem op_item (hG : GR X M) : OP (d + 12) mX6_item mX7_item [aI a, aI b] X M := by
  obtain ⟨m, T, h, hN, hR⟩ := id hG
  refine clX6_item a b X ?_
  unfold wpX6_item_0
  have S : ∀ (a0 : Int32) (X1 : Mem), wpX7_item_0 (Cl UM (d + 11)) a b M (fun v2 M1 => v2 = some (aI a0) ∧ GR X1 M1) → Cl UM (d + 12) mX7_item [aR 24 0, aI a, aI b] M (fun v2 M1 => v2 = some (aI a0) ∧ GR X1 M1) := fun a0 X1 q => clX7_item a b M q
  unfold wpX7_item_0 at S
  by_cases hc : 0 ≤ a ∧ a ≤ 4
  · obtain ⟨s, hs, ea⟩ := in_nI (N := 4) (by omega) hc
    obtain ⟨e1, e2⟩ := hR.2.2.1 s (by omega)
    refine xlT hc ⟨_, rfl, t2 ⟨s, ea, by omega, x_finding (by omega) (fun q => ?_) (fun q0 q1 => ?_) (fun q0 q1 => ?_)⟩⟩
    · rw [e1] at q
      exact ⟨_, rfl, fun c => absurd c (by decide), fun _ => ⟨_, rfl, S _ _ (rlT hc ⟨_, rfl, t2 ⟨s, ea, by omega, fun c => absurd q c, fun _ => ⟨rfl, hG⟩⟩⟩)⟩⟩
    · rw [e1] at q0 q1
      exact ⟨_, rfl, fun c => absurd c (by decide), fun _ => ⟨_, rfl, S _ _ (rlT hc ⟨_, rfl, t2 ⟨s, ea, by omega, fun _ => ⟨fun c => absurd c q1, fun _ => ⟨rfl, hG⟩⟩, fun c => absurd c q0⟩⟩)⟩⟩
    · rw [e1] at q0 q1
      have e3 : ∃ z, z ≤ 24 ∧ X 4 (4 + s) 1 = nI z ∧ M 41 0 s = nI z ∧ ∀ k, k < z → X 23 (4 + s) k = M 43 0 (24 * s + k) := by
        rcases e2 with z | z | z | z
        · exact absurd z q0
        · exact absurd (q1.symm.trans z.1) (by decide)
        · exact z.2
        · exact absurd (q1.symm.trans z.1) (by decide)
      obtain ⟨z, g1, g2, g3, g4⟩ := e3
      refine ⟨_, rfl, f1 (x_hasPlace (by omega) g2 g1 (fun hp => ⟨_, rfl, t2 ?_⟩) (fun hp => ⟨_, rfl, f2 ⟨_, rfl, S _ _ (rlT hc ⟨_, rfl, t2 ⟨s, ea, by omega, fun _ => ⟨fun _ => ?_, fun c => absurd q1 c⟩, fun c => absurd c q0⟩⟩)⟩⟩))⟩
      · obtain ⟨k, hk, eb⟩ := plc_of g1 hp
        have e24 : (24 : Int32) * a + b = nI (24 * s + k) := by rw [ea, eb, show (24 : Int32) = nI 24 from rfl, pk_mul, nI_add]
        have g5 := g4 k hk
        have R : ∀ a0, (¬ X 23 (4 + s) k = -1000000005 → a0 = X 23 (4 + s) k) → (X 23 (4 + s) k = -1000000005 → a0 = -1000000012) → Cl UM (d + 12) mX7_item [aR 24 0, aI a, aI b] M (fun v2 M1 => v2 = some (aI a0) ∧ GR X M1) := by
          intro a0 w1 w2
          refine S _ _ (rlT hc ⟨_, rfl, t2 ⟨s, ea, by omega, fun _ => ⟨fun _ => ?_, fun c => absurd q1 c⟩, fun c => absurd c q0⟩⟩)
          rw [g3]
          refine rwT hp ⟨_, rfl, t2 ⟨24 * s + k, e24, by omega, fun z7 e7 => ⟨fun c => ⟨?_, hG⟩, fun c => ⟨?_, hG⟩⟩⟩⟩
          · rw [w1 (fun c2 => c (by rw [e7, ← g5]; exact c2)), e7, g5]
          · rw [w2 (by rw [g5, ← e7]; exact c)]
        refine clX3_isNumber (4 + s) (by omega) b X ?_
        unfold wpX3_isNumber_0
        exact ⟨k, eb, by omega, fun c => ⟨_, rfl, f1 ⟨_, rfl, R _ (fun c2 => absurd c c2) (fun _ => rfl)⟩⟩, fun c => ⟨_, rfl, t1 ⟨k, eb, by omega, _, rfl, R _ (fun _ => rfl) (fun c2 => absurd c2 c)⟩⟩⟩
      · rw [g3]
        exact rwF hp ⟨_, rfl, f2 ⟨rfl, hG⟩⟩
  · exact xlF hc ⟨_, rfl, f2 ⟨_, rfl, S _ _ (rlF hc ⟨_, rfl, f2 ⟨rfl, hG⟩⟩)⟩⟩
theorem rem_m1 : x - x / (-1) * (-1) = 0 := by
  have e : x / (-1) = -x := by
    apply Int32.toInt_inj.mp
    rw [Int32.toInt_div, show (-1 : Int32).toInt = -1 from rfl, Int.tdiv_neg, Int.tdiv_one, Int32.toInt_neg]
  rw [e, Int32.neg_mul, Int32.mul_neg, Int32.mul_one, Int32.neg_neg, Int32.sub_self]
theorem op_rest (hG : GR X M) : OP (d + 12) mX6_rest mX7_rest [aI a, aI b] X M := by
  obtain ⟨m, T, h, hN, hR⟩ := id hG
  refine clX6_rest a b X ?_
  unfold wpX6_rest_0
  have S : ∀ (a0 : Int32) (X1 : Mem), wpX7_rest_0 (Cl UM (d + 11)) a b M (fun v2 M1 => v2 = some (aI a0) ∧ GR X1 M1) → Cl UM (d + 12) mX7_rest [aR 24 0, aI a, aI b] M (fun v2 M1 => v2 = some (aI a0) ∧ GR X1 M1) := fun a0 X1 q => clX7_rest a b M q
  unfold wpX7_rest_0 at S
  by_cases hc : 0 ≤ a ∧ a ≤ 4
  · obtain ⟨s, hs, ea⟩ := in_nI (N := 4) (by omega) hc
    obtain ⟨e1, e2⟩ := hR.2.2.1 s (by omega)
    refine xlT hc ⟨_, rfl, t2 ⟨s, ea, by omega, x_finding (by omega) (fun q => ?_) (fun q0 q1 => ?_) (fun q0 q1 => ?_)⟩⟩
    · rw [e1] at q
      exact ⟨_, rfl, fun c => absurd c (by decide), fun _ => ⟨_, rfl, S _ _ (rlT hc ⟨_, rfl, t2 ⟨s, ea, by omega, fun c => absurd q c, fun _ => ⟨rfl, hG⟩⟩⟩)⟩⟩
    · rw [e1] at q0 q1
      exact ⟨_, rfl, fun c => absurd c (by decide), fun _ => ⟨_, rfl, S _ _ (rlT hc ⟨_, rfl, t2 ⟨s, ea, by omega, fun _ => ⟨fun c => absurd c q1, fun _ => ⟨rfl, hG⟩⟩, fun c => absurd c q0⟩⟩)⟩⟩
    · rw [e1] at q0 q1
      have e3 : X 5 s 1 = M 41 0 s := by
        rcases e2 with z | z | z | z
        · exact absurd z q0
        · exact absurd (q1.symm.trans z.1) (by decide)
        · exact absurd (q1.symm.trans z.1) (by decide)
        · exact z.2
      refine ⟨_, rfl, f1 ⟨fun n0 => ⟨n0, fun z7 e7 => ⟨_, rfl, S _ _ (rlT hc ⟨_, rfl, t2 ⟨s, ea, by omega, fun _ => ⟨fun _ => ⟨fun _ => ⟨fun nm => ⟨n0, fun z5 e5 => ⟨?_, hG⟩⟩, fun em => ⟨?_, hG⟩⟩, fun c => absurd c n0⟩, fun c => absurd q1 c⟩, fun c => absurd c q0⟩⟩)⟩⟩, fun c0 => ⟨_, rfl, S _ _ (rlT hc ⟨_, rfl, t2 ⟨s, ea, by omega, fun _ => ⟨fun _ => ⟨fun c => absurd c0 c, fun _ => ⟨rfl, hG⟩⟩, fun c => absurd q1 c⟩, fun c => absurd c q0⟩⟩)⟩⟩⟩
      · rw [e5, e7, e3]
      · rw [e7, em, rem_m1]
  · exact xlF hc ⟨_, rfl, f2 ⟨_, rfl, S _ _ (rlF hc ⟨_, rfl, f2 ⟨rfl, hG⟩⟩)⟩⟩
end OPS17
