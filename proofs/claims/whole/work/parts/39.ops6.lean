/-! ===== the calls, side by side: why, textTold, count, kilos, fine ===== -/
def gSum (n : NF) (k : Nat) : Nat → Int32
  | 0 => 0
  | i + 1 => gSum n k i + n (59 + 6 * i + k)
section OPS6
variable {d D : Nat} {V W X M X1 M1 : Mem} {P : Option AV → Mem → Prop} {w m h T i j k r t u q m1 h1 : Nat} {n n1 : NF} {a b c x y z kk ss : Int32} {B B1 : Int}
theorem r_sum (ea : a = nI k) (hk : k < 6) (hM : V 25 0 1 = nI m) (hm : m ≤ 8) (hp : P (some (aI (gSum (V 25 0) k m))) V) : Cl UM (d + 2) mX7_sumOf [aR 24 0, aI a] V P := by
  have L : ∀ q i, i + q = m → Gq (Kp (d + 2) mX7_sumOf UM P) UM cX7_sumOf 4 RX7 4 [(0, aR 24 0), (1, aI a), (2, aI (gSum (V 25 0) k i)), (3, aI (nI i))] [] V := by
    intro q
    induction q with
    | zero =>
      intro i hi
      have hi : i = m := by omega
      subst hi
      refine okX7_sumOf_4 (I4 := fun _ _ _ _ => False) a _ _ V (fun _ _ _ _ q => q.elim) ?_
      unfold wpX7_sumOf_4
      rw [hM]
      exact ⟨fun _ => hp, fun c => absurd (nI_le (Nat.le_refl i) (by omega)) c⟩
    | succ q ih =>
      intro i hi
      refine okX7_sumOf_4 (I4 := fun x1 x2 x3 W => x1 = a ∧ x2 = gSum (V 25 0) k (i + 1) ∧ x3 = nI (i + 1) ∧ W = V) a _ _ V (fun x1 x2 x3 W z => ?_) ?_
      · obtain ⟨rfl, rfl, rfl, hW⟩ := z
        rw [hW]
        exact ih (i + 1) (by omega)
      · unfold wpX7_sumOf_4
        rw [hM]
        refine ⟨fun c => absurd c (nI_ge (by omega) (by omega)), fun _ => ?_⟩
        exact r_of (k := k) rfl ea (by omega) ⟨_, rfl, fun z ez => ⟨rfl, ez, nI_1 i, rfl⟩⟩
  refine clX7_sumOf (I4 := fun x1 x2 x3 W => x1 = a ∧ x2 = 0 ∧ x3 = nI 0 ∧ W = V) a V (fun x1 x2 x3 W z => ?_) ?_
  · obtain ⟨rfl, rfl, rfl, hW⟩ := z
    rw [hW]
    exact L m 0 (by omega)
  · unfold wpX7_sumOf_0
    exact ⟨rfl, rfl, rfl, rfl⟩
theorem x_sumW (hw : w < 3) (hR : RW V w n m) (hp : P (some (aI (gSum n 4 m))) V) : Cl UX (d + 1) mX5_roofsWater [aR 2 w] V P := by
  have hm := hR.2.1
  have L : ∀ q i, i + q = m → Gq (Kp (d + 1) mX5_roofsWater UX P) UX cX5_roofsWater 3 RX5 4 [(0, aR 2 w), (1, aI (gSum n 4 i)), (2, aI (nI i))] [] V := by
    intro q
    induction q with
    | zero =>
      intro i hi
      have hi : i = m := by omega
      subst hi
      refine okX5_roofsWater_4 (I4 := fun _ _ _ => False) w hw _ _ V (fun _ _ _ q => q.elim) ?_
      unfold wpX5_roofsWater_4
      rw [hR.many]
      exact ⟨fun _ => hp, fun c => absurd (nI_le (Nat.le_refl i) (by omega)) c⟩
    | succ q ih =>
      intro i hi
      refine okX5_roofsWater_4 (I4 := fun x1 x2 W => x1 = gSum n 4 (i + 1) ∧ x2 = nI (i + 1) ∧ W = V) w hw _ _ V (fun x1 x2 W z => ?_) ?_
      · obtain ⟨rfl, rfl, hW⟩ := z
        rw [hW]
        exact ih (i + 1) (by omega)
      · unfold wpX5_roofsWater_4
        rw [hR.many]
        refine ⟨fun c => absurd c (nI_ge (by omega) (by omega)), fun _ => ⟨i, rfl, by omega, fun z ez => ⟨?_, nI_1 i, rfl⟩⟩⟩
        rw [ez, hR.rf (i := i) (by omega) (by omega)]
        rfl
  refine clX5_roofsWater (I4 := fun x1 x2 W => x1 = 0 ∧ x2 = nI 0 ∧ W = V) w hw V (fun x1 x2 W z => ?_) ?_
  · obtain ⟨rfl, rfl, hW⟩ := z
    rw [hW]
    exact L m 0 (by omega)
  · unfold wpX5_roofsWater_0
    exact ⟨rfl, rfl, rfl⟩
theorem x_sumS (hw : w < 3) (hR : RW V w n m) (hp : P (some (aI (gSum n 5 m))) V) : Cl UX (d + 1) mX5_roofsSnow [aR 2 w] V P := by
  have hm := hR.2.1
  have L : ∀ q i, i + q = m → Gq (Kp (d + 1) mX5_roofsSnow UX P) UX cX5_roofsSnow 3 RX5 4 [(0, aR 2 w), (1, aI (gSum n 5 i)), (2, aI (nI i))] [] V := by
    intro q
    induction q with
    | zero =>
      intro i hi
      have hi : i = m := by omega
      subst hi
      refine okX5_roofsSnow_4 (I4 := fun _ _ _ => False) w hw _ _ V (fun _ _ _ q => q.elim) ?_
      unfold wpX5_roofsSnow_4
      rw [hR.many]
      exact ⟨fun _ => hp, fun c => absurd (nI_le (Nat.le_refl i) (by omega)) c⟩
    | succ q ih =>
      intro i hi
      refine okX5_roofsSnow_4 (I4 := fun x1 x2 W => x1 = gSum n 5 (i + 1) ∧ x2 = nI (i + 1) ∧ W = V) w hw _ _ V (fun x1 x2 W z => ?_) ?_
      · obtain ⟨rfl, rfl, hW⟩ := z
        rw [hW]
        exact ih (i + 1) (by omega)
      · unfold wpX5_roofsSnow_4
        rw [hR.many]
        refine ⟨fun c => absurd c (nI_ge (by omega) (by omega)), fun _ => ⟨i, rfl, by omega, fun z ez => ⟨?_, nI_1 i, rfl⟩⟩⟩
        rw [ez, hR.rf (i := i) (by omega) (by omega)]
        rfl
  refine clX5_roofsSnow (I4 := fun x1 x2 W => x1 = 0 ∧ x2 = nI 0 ∧ W = V) w hw V (fun x1 x2 W z => ?_) ?_
  · obtain ⟨rfl, rfl, hW⟩ := z
    rw [hW]
    exact L m 0 (by omega)
  · unfold wpX5_roofsSnow_0
    exact ⟨rfl, rfl, rfl⟩
theorem op_count (hG : GR X M) : OP (d + 12) mX6_count mX7_count [aI a] X M := by
  obtain ⟨m, T, h, hN, hR⟩ := id hG
  have q1 := hN.1.1
  have hm := q1.2.1
  refine clX6_count a X ?_
  unfold wpX6_count_0
  have G : ∀ a0 : Int32, wpX7_count_0 (Cl UM (d + 11)) a M (fun v2 M1 => v2 = some (aI a0) ∧ GR X M1) → Cl UM (d + 12) mX7_count [aR 24 0, aI a] M (fun v2 M1 => v2 = some (aI a0) ∧ GR X M1) := fun a0 q => clX7_count a M q
  have N : ∀ {x y : Int32} {A : Prop}, x = y → (x == y) = false → A := fun e f => by rw [e] at f; simp at f
  obtain ⟨L1, l1, l2, l3, -⟩ := hR.2.2.2.2.1
  obtain ⟨L2, k1, k2, k3, -⟩ := hR.2.2.2.1
  refine ⟨fun c => ⟨_, rfl, G _ ?_⟩, fun c => ⟨_, rfl, G _ ?_⟩, fun c => ⟨_, rfl, G _ ?_⟩, fun c => ?_, fun c => ?_, fun c => ⟨_, rfl, G _ ?_⟩, fun c => ⟨_, rfl, G _ ?_⟩, fun c => ⟨_, rfl, G _ ?_⟩, fun c => ⟨_, rfl, G _ ?_⟩, fun c => ⟨_, rfl, G _ ?_⟩⟩
  · subst c
    exact ⟨fun _ => ⟨by rw [q1.many, q1.1], hG⟩, fun c => N c rfl, fun c => N c rfl, fun c => N c rfl, fun c => N c rfl, fun c => N c rfl, fun c => N c rfl, fun c => N c rfl, fun c => N c rfl, fun c => absurd rfl c.1⟩
  · subst c
    exact ⟨fun c => N c rfl, fun _ => ⟨by rw [← q1.sc 2 (by omega)]; rfl, hG⟩, fun c => N c rfl, fun c => N c rfl, fun c => N c rfl, fun c => N c rfl, fun c => N c rfl, fun c => N c rfl, fun c => N c rfl, fun c => absurd rfl c.2.1⟩
  · subst c
    exact ⟨fun c => N c rfl, fun c => N c rfl, fun _ => ⟨by rw [← q1.sc 3 (by omega)]; rfl, hG⟩, fun c => N c rfl, fun c => N c rfl, fun c => N c rfl, fun c => N c rfl, fun c => N c rfl, fun c => N c rfl, fun c => absurd rfl c.2.2.1⟩
  · subst c
    refine x_sumW (by omega) q1 ⟨_, rfl, _, rfl, G _ ?_⟩
    exact ⟨fun c => N c rfl, fun c => N c rfl, fun c => N c rfl, fun _ => r_sum (k := 4) rfl (by omega) q1.1 hm ⟨_, rfl, rfl, hG⟩, fun c => N c rfl, fun c => N c rfl, fun c => N c rfl, fun c => N c rfl, fun c => N c rfl, fun c => absurd rfl c.2.2.2.1⟩
  · subst c
    refine x_sumS (by omega) q1 ⟨_, rfl, _, rfl, G _ ?_⟩
    exact ⟨fun c => N c rfl, fun c => N c rfl, fun c => N c rfl, fun c => N c rfl, fun _ => r_sum (k := 5) rfl (by omega) q1.1 hm ⟨_, rfl, rfl, hG⟩, fun c => N c rfl, fun c => N c rfl, fun c => N c rfl, fun c => N c rfl, fun c => absurd rfl c.2.2.2.2.1⟩
  · subst c
    exact ⟨fun c => N c rfl, fun c => N c rfl, fun c => N c rfl, fun c => N c rfl, fun c => N c rfl, fun _ => ⟨by rw [← q1.sc 10 (by omega)]; rfl, hG⟩, fun c => N c rfl, fun c => N c rfl, fun c => N c rfl, fun c => absurd rfl c.2.2.2.2.2.1⟩
  · subst c
    exact ⟨fun c => N c rfl, fun c => N c rfl, fun c => N c rfl, fun c => N c rfl, fun c => N c rfl, fun c => N c rfl, fun _ => ⟨by rw [l2, l3], hG⟩, fun c => N c rfl, fun c => N c rfl, fun c => absurd rfl c.2.2.2.2.2.2.1⟩
  · subst c
    exact ⟨fun c => N c rfl, fun c => N c rfl, fun c => N c rfl, fun c => N c rfl, fun c => N c rfl, fun c => N c rfl, fun c => N c rfl, fun _ => ⟨by rw [k2, k3], hG⟩, fun c => N c rfl, fun c => absurd rfl c.2.2.2.2.2.2.2.1⟩
  · subst c
    exact ⟨fun c => N c rfl, fun c => N c rfl, fun c => N c rfl, fun c => N c rfl, fun c => N c rfl, fun c => N c rfl, fun c => N c rfl, fun c => N c rfl, fun _ => ⟨by rw [← q1.sc 0 (by omega)]; rfl, hG⟩, fun c => absurd rfl c.2.2.2.2.2.2.2.2⟩
  · obtain ⟨c0, c1, c2, c3, c4, c5, c6, c7, c8⟩ := id c
    exact ⟨fun z => absurd z c0, fun z => absurd z c1, fun z => absurd z c2, fun z => absurd z c3, fun z => absurd z c4, fun z => absurd z c5, fun z => absurd z c6, fun z => absurd z c7, fun z => absurd z c8, fun _ => ⟨rfl, hG⟩⟩
theorem op_kilos (hG : GR X M) : OP (d + 12) mX6_kilos mX7_kilos [aI a] X M := by
  obtain ⟨m, T, h, hN, hR⟩ := id hG
  have q1 := hN.1.1
  have hm := q1.2.1
  refine clX6_kilos a X ?_
  unfold wpX6_kilos_0
  have G : ∀ (k : Nat) (a0 : Int32), k < 6 → a = nI k → a0 = M 25 0 (4 + k) → Cl UM (d + 12) mX7_kilos [aR 24 0, aI a] M (fun v2 M1 => v2 = some (aI a0) ∧ GR X M1) := by
    intro k a0 hk ea e0
    refine clX7_kilos a M ?_
    unfold wpX7_kilos_0
    refine rwT (by rw [ea]; exact ⟨nI_le (a := 0) (by omega) (by omega), nI_le (b := 6) (by omega) (by omega)⟩) ⟨_, rfl, t2 ⟨fun c => ?_, fun _ => ⟨4 + k, ?_, by omega, ?_⟩⟩⟩
    · rw [ea] at c; exact absurd c (nI_ge (b := 6) (by omega) (by omega))
    · rw [ea, show (4 : Int32) = nI 4 from rfl, nI_add]
    · exact ⟨by rw [e0], hG⟩
  refine ⟨fun c => ⟨_, rfl, G 0 _ (by omega) c (q1.sc 4 (by omega))⟩, fun c => ⟨_, rfl, G 1 _ (by omega) c (q1.sc 5 (by omega))⟩, fun c => ⟨_, rfl, G 2 _ (by omega) c (q1.sc 6 (by omega))⟩, fun c => ⟨_, rfl, G 3 _ (by omega) c (q1.sc 7 (by omega))⟩, fun c => ⟨_, rfl, G 4 _ (by omega) c (q1.sc 8 (by omega))⟩, fun c => ⟨_, rfl, G 5 _ (by omega) c (q1.sc 9 (by omega))⟩, fun c => ?_, fun c => ⟨_, rfl, ?_⟩⟩
  · subst c
    refine clX5_allKilos 0 (by omega) X ?_
    unfold wpX5_allKilos_0
    refine x_sumW (by omega) q1 ⟨_, rfl, ?_⟩
    refine x_sumS (by omega) q1 ⟨_, rfl, _, rfl, _, rfl, ?_⟩
    refine clX7_kilos 6 M ?_
    unfold wpX7_kilos_0
    refine rwT (by decide) ⟨_, rfl, t2 ⟨fun _ => ?_, fun c => absurd (by decide) c⟩⟩
    refine r_sum (k := 4) rfl (by omega) q1.1 hm ⟨_, rfl, ?_⟩
    refine r_sum (k := 5) rfl (by omega) q1.1 hm ⟨_, rfl, ?_, hG⟩
    rw [show X 2 0 10 = M 25 0 4 from q1.sc 4 (by omega), show X 2 0 11 = M 25 0 5 from q1.sc 5 (by omega), show X 2 0 12 = M 25 0 6 from q1.sc 6 (by omega), show X 2 0 13 = M 25 0 7 from q1.sc 7 (by omega), show X 2 0 15 = M 25 0 9 from q1.sc 9 (by omega)]
  · refine clX7_kilos a M ?_
    unfold wpX7_kilos_0
    refine rwF (fun q => ?_) ⟨_, rfl, f2 ⟨rfl, hG⟩⟩
    obtain ⟨c0, c1, c2, c3, c4, c5, c6⟩ := c
    have hq := rng_of (l := 0) (u := 6) rfl rfl q
    rcases (show a.toInt = 0 ∨ a.toInt = 1 ∨ a.toInt = 2 ∨ a.toInt = 3 ∨ a.toInt = 4 ∨ a.toInt = 5 ∨ a.toInt = 6 by omega) with e | e | e | e | e | e | e
    · exact c0 (ti_eq.mpr e)
    · exact c1 (ti_eq.mpr e)
    · exact c2 (ti_eq.mpr e)
    · exact c3 (ti_eq.mpr e)
    · exact c4 (ti_eq.mpr e)
    · exact c5 (ti_eq.mpr e)
    · exact c6 (ti_eq.mpr e)
theorem op_why (hG : GR X M) : OP (d + 12) mX6_why mX7_why [aI a] X M := by
  obtain ⟨m, T, h, hN, hR⟩ := id hG
  obtain ⟨q1, q2, q3, q4, q5, q6, q7⟩ := id hN.1
  refine clX6_why a X ?_
  unfold wpX6_why_0
  by_cases hc : 0 ≤ a ∧ a ≤ 2
  · obtain ⟨k, hk, ea⟩ := in_nI (N := 2) (by omega) hc
    refine xwT hc ⟨_, rfl, t1 ⟨k, ea, by omega, _, rfl, ?_⟩⟩
    refine clX7_why a M ?_
    unfold wpX7_why_0
    refine rwT hc ⟨_, rfl, t2 ?_⟩
    refine r_counts q4.1 q4.2.1 ⟨_, rfl, ?_⟩
    rcases count_cases q4 (k := k) (by omega) (q6 k (by omega)) with ⟨p1, p2⟩ | ⟨u, u1, u2, u3, u4, u5, u6⟩
    · rw [← ea] at p1
      refine ⟨fun c => ?_, fun _ => ⟨by rw [p2], hG⟩⟩
      have := ti_le.mp c
      have p1 := ti_lt.mp p1
      omega
    · rw [← ea] at u2
      rw [u2]
      have hT := q4.2.1
      refine ⟨fun _ => ⟨by rw [u3], hG⟩, fun c => absurd (nI_le (a := 0) (b := u) (by omega) (by omega)) c⟩
  · refine xwF hc ⟨_, rfl, f1 ⟨_, rfl, ?_⟩⟩
    refine clX7_why a M ?_
    unfold wpX7_why_0
    exact rwF hc ⟨_, rfl, f2 ⟨rfl, hG⟩⟩
theorem op_textTold (hG : GR X M) : OP (d + 12) mX6_textTold mX7_textTold [aI a, aI b] X M := by
  obtain ⟨m, T, h, hN, hR⟩ := id hG
  obtain ⟨q1, q2, q3, q4, q5, q6, q7⟩ := id hN.1
  have eX : X 2 0 5 = nI T := (q1.sc 10 (by omega)).trans q4.1
  have hT := q4.2.1
  refine clX6_textTold a b X ?_
  unfold wpX6_textTold_0
  rw [eX]
  have S : ∀ a0 : Int32, wpX7_textTold_0 (Cl UM (d + 11)) a b M (fun v2 M1 => v2 = some (aI a0) ∧ GR X M1) → Cl UM (d + 12) mX7_textTold [aR 24 0, aI a, aI b] M (fun v2 M1 => v2 = some (aI a0) ∧ GR X M1) := fun a0 q => clX7_textTold a b M q
  unfold wpX7_textTold_0 at S
  rw [q4.1] at S
  by_cases hc : 0 ≤ a ∧ a ≤ nI T - 1
  · obtain ⟨t, ht, ea⟩ : ∃ t, t < T ∧ a = nI t := by
      obtain ⟨j, h1, h2⟩ := nI_of (x := a) (by rw [ti_lt, ti0]; have := ti_le.mp hc.1; rw [ti0] at this; omega)
      refine ⟨j, ?_, h2⟩
      have h3 := ti_le.mp hc.2
      rw [h2, nI_toInt h1, ti_sub (by rw [nI_toInt (by omega), show (1 : Int32).toInt = 1 from rfl]; omega) (by rw [nI_toInt (by omega), show (1 : Int32).toInt = 1 from rfl]; omega), nI_toInt (by omega), show (1 : Int32).toInt = 1 from rfl] at h3
      omega
    have hL := q5 t ht
    have e2 : (107 : Int32) + 2 * a = nI (107 + 2 * t) := by rw [ea, show (107 : Int32) = nI 107 from rfl, show (2 : Int32) = nI 2 from rfl, pk_mul, nI_add]
    refine xwT hc ⟨_, rfl, t2 ⟨fun c => ⟨t, ea, by omega, _, rfl, S _ ?_⟩, fun c => ⟨t, ea, by omega, _, rfl, S _ ?_⟩, fun c => ⟨_, rfl, S _ ?_⟩⟩⟩
    · refine rwT hc ⟨_, rfl, t1 ?_⟩
      subst c
      refine rwT (by decide) ⟨_, rfl, t2 ⟨fun c => absurd rfl c, fun _ => ⟨107 + 2 * t, e2, by omega, by rw [hL.2.1], hG⟩⟩⟩
    · refine rwT hc ⟨_, rfl, t1 ?_⟩
      subst c
      refine rwT (by decide) ⟨_, rfl, t2 ⟨fun _ => ⟨108 + 2 * t, ?_, by omega, by rw [hL.2.2.1], hG⟩, fun c => absurd c (by decide)⟩⟩
      rw [e2, nI_1, show 107 + 2 * t + 1 = 108 + 2 * t by omega]
    · refine rwT hc ⟨_, rfl, t1 ?_⟩
      refine rwF (fun q => ?_) ⟨_, rfl, f2 ⟨rfl, hG⟩⟩
      have hq := rng_of (l := 0) (u := 1) rfl rfl q
      rcases (show b.toInt = 0 ∨ b.toInt = 1 by omega) with e | e
      · exact c.1 (ti_eq.mpr e)
      · exact c.2 (ti_eq.mpr e)
  · exact xwF hc ⟨_, rfl, f2 ⟨_, rfl, S _ (rwF hc ⟨_, rfl, f1 ⟨rfl, hG⟩⟩)⟩⟩
theorem op_fine (hG : GR X M) : OP (d + 12) mX6_fine mX7_fine [aI a] X M := by
  obtain ⟨m, T, h, hN, hR⟩ := id hG
  obtain ⟨q1, q2, q3, q4, q5, q6, q7⟩ := id hN.1
  have hm := q1.2.1
  have hT := q4.2.1
  have hX : X 2 0 6 = nI m := q1.many
  have hM : M 25 0 1 = nI m := q1.1
  refine clX6_fine a X ?_
  unfold wpX6_fine_0
  have S : ∀ (a0 : Int32) (X1 : Mem), wpX7_fine_0 (Cl UM (d + 11)) a M (fun v2 M1 => v2 = some (aI a0) ∧ GR X1 M1) → Cl UM (d + 12) mX7_fine [aR 24 0, aI a] M (fun v2 M1 => v2 = some (aI a0) ∧ GR X1 M1) := fun a0 X1 q => clX7_fine a M q
  unfold wpX7_fine_0 at S
  by_cases hc : 0 ≤ a ∧ a ≤ nI m - 1
  · obtain ⟨j, hj, ea⟩ := isRoof_of hm hc
    refine xrT hX hc ⟨_, rfl, t1 ⟨j, ea, by omega, ?_⟩⟩
    have e4 := q1.rf hj (j := 4) (by omega)
    have e8 : X 2 0 14 = M 25 0 8 := q1.sc 8 (by omega)
    have e54 : 59 + 6 * j + 4 = 63 + 6 * j := by omega
    rw [e54] at e4
    -- the facts
    have F8 : ∀ V7 V8 : Mem, V7 = mu M 36 0 0 (M 25 0 (63 + 6 * j)) → V8 = mu V7 36 0 1 (V7 25 0 8) → V8 = ma M 36 0 (upd (upd (M 36 0) 0 (M 25 0 (63 + 6 * j))) 1 (M 25 0 8)) := by
      intro V7 V8 e7 e8
      rw [e8, e7, mu_o (show ¬ 25 = 36 by decide), mu_eq M, mu_ma]
    refine clX5_fineFor 0 (8 * 0 + j) (by omega) (by omega) X ?_
    unfold wpX5_fineFor_0
    intro z ez
    rcases count_cases q4 (k := 2) (by omega) (q6 2 (by omega)) with ⟨p1, p2⟩ | ⟨u, u1, u2, u3, u4, u5, u6⟩
    · refine ⟨fun c => absurd (ez.trans p2) c, fun _ => ⟨_, rfl, _, rfl, S _ _ ?_⟩⟩
      refine rrT hM hc ⟨_, rfl, t2 ?_⟩
      refine r_counts q4.1 q4.2.1 ⟨_, rfl, ?_⟩
      refine r_of (k := 4) ea rfl (by omega) ⟨_, rfl, fun V7 g7 V8 g8 => ?_⟩
      rw [e54] at g7
      have g := F8 V7 V8 g7 g8
      refine ⟨fun c => ?_, fun _ => ⟨?_, ?_⟩⟩
      · have := ti_le.mp c
        have p1 := ti_lt.mp p1
        have e : (2 : Int32) = nI 2 := rfl
        rw [e] at this
        omega
      · rw [g, ma_o (show ¬ 25 = 36 by decide), e8]
      · have := GR.scr (s := X 12 0) (f2 := upd (upd (M 36 0) 0 (M 25 0 (63 + 6 * j))) 1 (M 25 0 8)) (s2 := M 35 0) hN hR
        rw [ma_eta, ← g] at this
        have e35 : M 35 0 = V8 35 0 := by rw [g, ma_o (by decide)]
        rw [e35, ma_eta] at this
        exact this
    · refine ⟨fun _ => ?_, fun c => absurd (ez.symm.trans c) u4⟩
      refine x_give (t := u) (T := T) (nb := 2) (n := M 25 0) (ez.trans u3) u1 hT q5 u5 (by omega) u6 (fun s => ⟨_, rfl, _, rfl, _, rfl, S _ _ ?_⟩)
      refine rrT hM hc ⟨_, rfl, t2 ?_⟩
      refine r_counts q4.1 q4.2.1 ⟨_, rfl, ?_⟩
      refine r_of (k := 4) ea rfl (by omega) ⟨_, rfl, fun V7 g7 V8 g8 => ?_⟩
      rw [e54] at g7
      have g := F8 V7 V8 g7 g8
      have h8 : V8 25 0 = M 25 0 := by rw [g, ma_o (by decide)]
      have u2' : gCt (M 25 0) 2 T = nI u := u2
      rw [u2']
      refine ⟨fun _ => ?_, fun c => absurd (nI_le (a := 0) (b := u) (by omega) (by omega)) c⟩
      obtain ⟨key, L, k1, k2, k3, k4⟩ := q4.2.2 u u1
      rcases gCt_spec q4.2.2 (k := 2) (by omega) T (Nat.le_refl T) with y | ⟨u', L', y1, y2, y3, y4, y5⟩
      · rw [u2] at y
        exact absurd y (fun y => by have := congrArg Int32.toInt y; rw [nI_toInt (by omega), show (-1 : Int32).toInt = -1 from rfl] at this; omega)
      · have eu : u' = u := ((nI_eq (by omega) (by omega)).mp (u2.symm.trans y2)).symm
        subst eu
        refine r_works (t := u') (L := L') (key := 2) (nb := 2) rfl (by omega) (by rw [h8]; exact y4) (by omega) y3 (by omega) (by rw [h8]; exact y5) (fun s2 => ⟨_, rfl, ?_, ?_⟩)
        · rw [h8, r_lawat (k := 2) (a := M 25 0 (63 + 6 * j)) (b := M 25 0 8) (c := 0) (e := 0) y2 (by omega) (by omega) y3 y4 y5 (by
            intro q hq
            rw [g, ma_same]
            have hq : q < 2 := hq
            rcases (show q = 0 ∨ q = 1 by omega) with rfl | rfl <;> simp [upd, f3])]
          unfold gLaw
          rw [y2, if_neg (nI_pos (by omega)), nI_clamp (by omega), e4, e8]
        · rw [g]
          exact GR.scr hN hR
  · exact xrF hX hc ⟨_, rfl, f1 ⟨_, rfl, S _ _ (rrF hM hc ⟨_, rfl, f2 ⟨rfl, hG⟩⟩)⟩⟩
end OPS6
