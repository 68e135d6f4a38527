/-! ===== the calls, side by side: mark, reads ===== -/
section OPS14
variable {d D : Nat} {V W X M X1 M1 : Mem} {P : Option AV → Mem → Prop} {w v m h T i j k r t u q m1 h1 s : Nat} {n n1 : NF} {a b c x y z kk ss : Int32} {B B1 : Int}
theorem GR.mk1 (hN : NowR X M m T h) (hR : Rst X M T) (hs : s < 4) (hk : k < 24) (hx : x = -1000000005 ∨ (-99999 ≤ x.toInt ∧ x.toInt ≤ 99999)) : GR (mu X 23 s k x) (mu M 39 0 (24 * s + k) x) := by
  refine GR.sh hN hR hs (fun r i _ q => by rw [mu_eq, ma_ne q]) (fun r _ _ q => mu_o q) (fun t _ => by rw [mu_o (by decide)]) (fun t _ => by rw [mu_o (by decide)]) (fun p hp => mu_sn (by omega)) ?_
  obtain ⟨s1, z, hz, s2, s3, s4, s5⟩ := hR.2.1 s hs
  unfold ShR
  rw [mu_o (show ¬ 4 = 23 by decide), mu_o (show ¬ 37 = 39 by decide), mu_o (show ¬ 38 = 39 by decide)]
  refine ⟨s1, z, hz, s2, s3, s4, fun i hi => ?_⟩
  by_cases e : i = k
  · rw [e, mu_sk, mu_sk]
    exact ⟨rfl, hx⟩
  · rw [mu_sn e, mu_sn (by omega)]
    exact s5 i hi
theorem sh_rng : -99999 ≤ (x.toInt16.toInt32).toInt ∧ (x.toInt16.toInt32).toInt ≤ 99999 := by
  rw [Int16.toInt_toInt32]
  have h1 := Int16.le_toInt x.toInt16
  have h2 := Int16.toInt_lt x.toInt16
  omega
theorem plc (hz : u ≤ 24) : (0 ≤ b ∧ b ≤ nI u - 1) ∨ ¬ (0 ≤ b ∧ b ≤ nI u - 1) := Classical.em _
theorem plc_of (hz : u ≤ 24) (hq : 0 ≤ b ∧ b ≤ nI u - 1) : ∃ k, k < u ∧ b = nI k := by
  obtain ⟨j, h1, h2⟩ := nI_of (x := b) (by rw [ti_lt, ti0]; have := ti_le.mp hq.1; rw [ti0] at this; omega)
  refine ⟨j, ?_, h2⟩
  have h3 := ti_le.mp hq.2
  rw [h2, nI_toInt h1, ti_sub (by rw [nI_toInt (by omega), show (1 : Int32).toInt = 1 from rfl]; omega) (by rw [nI_toInt (by omega), show (1 : Int32).toInt = 1 from rfl]; omega), nI_toInt (by omega), show (1 : Int32).toInt = 1 from rfl] at h3
  omega
theorem plc_in (hz : u ≤ 24) (hk : k < u) : 0 ≤ nI k ∧ nI k ≤ nI u - 1 := by
  refine ⟨nI_le (a := 0) (by omega) (by omega), ?_⟩
  rw [show nI u - 1 = nI (u - 1) from pk_sub (b := 1) (by omega)]
  exact nI_le (by omega) (by omega)
theorem x_hasPlace (hs : s < 9) (e : V 4 s 1 = nI u) (hz : u ≤ 24) (hT : (0 ≤ b ∧ b ≤ nI u - 1) → P (some (aI 1)) V) (hF : ¬ (0 ≤ b ∧ b ≤ nI u - 1) → P (some (aI 0)) V) : Cl UX (d + 1) mX3_hasPlace [aR 4 s, aI b] V P := by
  refine clX3_hasPlace s hs b V ?_
  unfold wpX3_hasPlace_0
  rw [e]
  refine ⟨fun c => hF (fun q => ?_), fun c => ⟨fun c2 => hF (fun q => ?_), fun c2 => hT ?_⟩⟩
  · obtain ⟨k, k1, k2⟩ := plc_of hz q
    rw [k2] at c
    exact absurd c (nI_pos (by omega))
  · obtain ⟨k, k1, k2⟩ := plc_of hz q
    rw [k2] at c2
    exact absurd c2 (nI_ge (by omega) (by omega))
  · obtain ⟨j, h1, h2⟩ := nI_of c
    rw [h2] at c2 ⊢
    refine plc_in hz ?_
    rcases Nat.lt_or_ge j u with q | q
    · exact q
    · exact absurd (nI_le q (by omega)) c2
theorem op_mark (hG : GR X M) : OP (d + 12) mX6_mark mX7_mark [aI a, aI b, aI c] X M := by
  obtain ⟨m, T, h, hN, hR⟩ := id hG
  refine clX6_mark a b c X ?_
  unfold wpX6_mark_0
  have S : ∀ (a0 : Int32) (X1 : Mem), wpX7_mark_0 (Cl UM (d + 11)) a b c M (fun v2 M1 => v2 = some (aI a0) ∧ GR X1 M1) → Cl UM (d + 12) mX7_mark [aR 24 0, aI a, aI b, aI c] M (fun v2 M1 => v2 = some (aI a0) ∧ GR X1 M1) := fun a0 X1 q => clX7_mark a b c M q
  unfold wpX7_mark_0 wpX7_mark_59 wpX7_mark_90 at S
  by_cases hc : 0 ≤ a ∧ a ≤ 3
  · obtain ⟨s, hs, ea⟩ := in_nI (N := 3) (by omega) hc
    obtain ⟨s1, z, hz, s2, s3, s4, s5⟩ := hR.2.1 s (by omega)
    refine xsT hc ⟨_, rfl, t2 ⟨s, ea, by omega, ?_⟩⟩
    refine clX3_isMissing s (by omega) X ?_
    unfold wpX3_isMissing_0
    rw [s1]
    refine ⟨fun m1 => ⟨_, rfl, f1 ?_⟩, fun m1 => ⟨_, rfl, t1 ⟨_, rfl, S _ _ (rsT hc ⟨_, rfl, t2 ⟨s, ea, by omega, fun q => ?_, fun _ => ⟨rfl, hG⟩⟩⟩)⟩⟩⟩
    · have p1 : M 37 0 s = 0 ∨ M 37 0 s = 1 := s4.resolve_left (fun q => m1 q.1)
      have p0 : 0 ≤ M 37 0 s := by rcases p1 with q | q <;> (rw [q]; decide)
      refine x_hasPlace (by omega) s2 hz (fun hp => ⟨_, rfl, t2 ?_⟩) (fun hp => ⟨_, rfl, f2 ⟨_, rfl, S _ _ (rsT hc ⟨_, rfl, t2 ⟨s, ea, by omega, fun _ => ?_, fun q => absurd p0 q⟩⟩)⟩⟩)
      · obtain ⟨k, hk, eb⟩ := plc_of hz hp
        have e24 : (24 : Int32) * a + b = nI (24 * s + k) := by rw [ea, eb, show (24 : Int32) = nI 24 from rfl, pk_mul, nI_add]
        have W1 : ∀ x : Int32, (x = -1000000005 ∨ (-99999 ≤ x.toInt ∧ x.toInt ≤ 99999)) → (Cl UM (d + 12) mX7_mark [aR 24 0, aI a, aI b, aI c] M (fun v2 M1 => v2 = some (aI 1) ∧ GR (mu X 23 s k x) M1)) → cI (Cl UX (d + 11)) mX3_write [aR 4 s, aI b, aI x] X (fun x_9 V_8 => (fun v X1 => ∃ a0, v = some (aI a0) ∧ Cl UM (d + 12) mX7_mark [aR 24 0, aI a, aI b, aI c] M (fun v2 M1 => v2 = some (aI a0) ∧ GR X1 M1)) (some (aI x_9)) V_8) := by
          intro x hx q
          refine clX3_write s (by omega) b x X ?_
          unfold wpX3_write_0
          refine ⟨k, eb, by omega, fun V2 e2 => ⟨_, rfl, _, rfl, ?_⟩⟩
          rw [e2]
          exact q
        rw [s1]
        refine ⟨fun n0 => ?_, fun n0 => ⟨fun nc => W1 _ (Or.inr sh_rng) (S _ _ ?_), fun nc => ⟨_, rfl, S _ _ ?_⟩⟩⟩
        · have h1 : M 37 0 s = 1 := p1.resolve_left n0
          refine ⟨fun nc => W1 _ (Or.inl nc) (S _ _ ?_), fun nc => ?_⟩
          · refine rsT hc ⟨_, rfl, t2 ⟨s, ea, by omega, fun _ => ?_, fun q => absurd p0 q⟩⟩
            rw [s3]
            refine rwT hp ⟨_, rfl, t2 ⟨fun _ => ⟨s, ea, by omega, fun q => absurd h1 q, fun _ => ⟨fun _ => ⟨s, ea, by omega, fun _ => ⟨24 * s + k, e24, by omega, fun V3 e3 => ⟨rfl, ?_⟩⟩, fun q => absurd q n0⟩, fun q => absurd nc q⟩⟩, fun q => absurd q n0⟩⟩
            rw [e3]
            exact GR.mk1 hN hR (by omega) (by omega) (Or.inl nc)
          · by_cases hc3 : -99999 ≤ c ∧ c ≤ 99999
            · refine xwT hc3 ⟨_, rfl, t1 (W1 _ (Or.inr (rng_of (l := -99999) (u := 99999) rfl rfl hc3)) (S _ _ ?_))⟩
              refine rsT hc ⟨_, rfl, t2 ⟨s, ea, by omega, fun _ => ?_, fun q => absurd p0 q⟩⟩
              rw [s3]
              refine rwT hp ⟨_, rfl, t2 ⟨fun _ => ⟨s, ea, by omega, fun q => absurd h1 q, fun _ => ⟨fun q => absurd q nc, fun _ => rwT hc3 ⟨_, rfl, t2 ⟨s, ea, by omega, fun _ => ⟨24 * s + k, e24, by omega, fun V3 e3 => ⟨rfl, ?_⟩⟩, fun q => absurd q n0⟩⟩⟩⟩, fun q => absurd q n0⟩⟩
              rw [e3]
              exact GR.mk1 hN hR (by omega) (by omega) (Or.inr (rng_of (l := -99999) (u := 99999) rfl rfl hc3))
            · refine xwF hc3 ⟨_, rfl, f1 ⟨_, rfl, S _ _ ?_⟩⟩
              refine rsT hc ⟨_, rfl, t2 ⟨s, ea, by omega, fun _ => ?_, fun q => absurd p0 q⟩⟩
              rw [s3]
              exact rwT hp ⟨_, rfl, t2 ⟨fun _ => ⟨s, ea, by omega, fun q => absurd h1 q, fun _ => ⟨fun q => absurd q nc, fun _ => rwF hc3 ⟨_, rfl, f2 ⟨rfl, hG⟩⟩⟩⟩, fun q => absurd q n0⟩⟩
        · refine rsT hc ⟨_, rfl, t2 ⟨s, ea, by omega, fun _ => ?_, fun q => absurd p0 q⟩⟩
          rw [s3]
          refine rwT hp ⟨_, rfl, t2 ⟨fun q => absurd n0 q, fun _ => ⟨fun _ => ⟨s, ea, by omega, fun _ => ⟨s, ea, by omega, fun q => absurd n0 q, fun _ => ⟨24 * s + k, e24, by omega, fun V3 e3 => ⟨rfl, ?_⟩⟩⟩, fun q => absurd (n0.symm.trans q) (by decide)⟩, fun q => absurd q nc⟩⟩⟩
          rw [e3]
          exact GR.mk1 hN hR (by omega) (by omega) (Or.inr sh_rng)
        · refine rsT hc ⟨_, rfl, t2 ⟨s, ea, by omega, fun _ => ?_, fun q => absurd p0 q⟩⟩
          rw [s3]
          exact rwT hp ⟨_, rfl, t2 ⟨fun q => absurd n0 q, fun _ => ⟨fun q => absurd nc q, fun _ => ⟨rfl, hG⟩⟩⟩⟩
      · rw [s3]
        exact rwF hp ⟨_, rfl, f2 ⟨rfl, hG⟩⟩
    · rw [m1] at q; exact absurd q (by decide)
  · exact xsF hc ⟨_, rfl, f2 ⟨_, rfl, S _ _ (rsF hc ⟨_, rfl, f2 ⟨rfl, hG⟩⟩)⟩⟩
end OPS14
