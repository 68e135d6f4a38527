/-! ===== the calls, side by side: reads, pour ===== -/
def gPour (n : NF) (row : Nat → Int32) : Nat → NF × Int32
  | 0 => (n, 0)
  | i + 1 => if row i = -1000000005 then gPour n row i else (upd (gPour n row i).1 (35 + i) (wi (row i) 0 9), (gPour n row i).2 + (if (gPour n row i).1 (35 + i) = wi (row i) 0 9 then 0 else 1))
section OPS15
variable {d D : Nat} {V W X M X1 M1 : Mem} {P : Option AV → Mem → Prop} {w v m h T i j k r t u q m1 h1 s : Nat} {n n1 : NF} {a b c x y z kk ss : Int32} {B B1 : Int}
theorem clamp9 : (if 0 < (if x < 9 then x else 9) then (if x < 9 then x else 9) else 0) = wi x 0 9 := by
  unfold wi
  have e9 : (9 : Int32).toInt = 9 := rfl
  by_cases q1 : x < 9
  · rw [if_pos q1]
    rw [ti_lt, e9] at q1
    by_cases q2 : 0 < x
    · rw [if_pos q2]
      rw [ti_lt, ti0] at q2
      rw [if_neg (fun q => by rw [ti_lt, ti0] at q; omega), if_neg (fun q => by rw [ti_lt, e9] at q; omega)]
    · rw [if_neg q2]
      rw [ti_lt, ti0] at q2
      by_cases q3 : x < 0
      · rw [if_pos q3]
      · rw [if_neg q3, if_neg (fun q => by rw [ti_lt, e9] at q; omega)]
        rw [ti_lt, ti0] at q3
        exact ti_eq.mpr (by rw [ti0]; omega)
  · rw [if_neg q1, if_pos (by decide)]
    rw [ti_lt, e9] at q1
    rw [if_neg (fun q => by rw [ti_lt, ti0] at q; omega)]
    by_cases q3 : 9 < x
    · rw [if_pos q3]
    · rw [if_neg q3]
      rw [ti_lt, e9] at q3
      exact ti_eq.mpr (by rw [e9]; omega)
theorem wi9 : 0 ≤ (wi x 0 9).toInt ∧ (wi x 0 9).toInt ≤ 9 := by
  have e9 : (9 : Int32).toInt = 9 := rfl
  rw [wi_ti, ti0, e9]
  split
  · omega
  · split <;> omega
theorem gPour_o {row : Nat → Int32} (hj : j < 35 ∨ 59 ≤ j) : ∀ k, k ≤ 24 → (gPour n row k).1 j = n j
  | 0, _ => rfl
  | k + 1, hk => by
    rw [gPour]
    split
    · exact gPour_o hj k (by omega)
    · dsimp only
      rw [up_n (by omega), gPour_o hj k (by omega)]
theorem gPour_inv {row : Nat → Int32} (hs : sky n) (hI : WI n m B) : ∀ k, k ≤ 24 → sky (gPour n row k).1 ∧ WI (gPour n row k).1 m B
  | 0, _ => ⟨hs, hI⟩
  | k + 1, hk => by
    obtain ⟨i1, i2⟩ := gPour_inv (row := row) hs hI k (by omega)
    rw [gPour]
    split
    · exact ⟨i1, i2⟩
    · have := wi9 (x := row k)
      exact ⟨i1.fal (by omega) this.1 this.2, i2.out (by omega)⟩
theorem op_reads (hG : GR X M) : OP (d + 12) mX6_reads mX7_reads [aI a] X M := by
  obtain ⟨m, T, h, hN, hR⟩ := id hG
  have q1 := hN.1.1
  have hm := q1.2.1
  have hX : X 2 0 6 = nI m := q1.many
  have hM : M 25 0 1 = nI m := q1.1
  have S : ∀ (a0 : Int32) (X1 : Mem), wpX7_reads_0 (Cl UM (d + 11)) (fun _ _ _ => False) a M (fun v2 M1 => v2 = some (aI a0) ∧ GR X1 M1) → Cl UM (d + 12) mX7_reads [aR 24 0, aI a] M (fun v2 M1 => v2 = some (aI a0) ∧ GR X1 M1) := fun a0 X1 q => clX7_reads (I24 := fun _ _ _ => False) a M (fun _ _ _ q => q.elim) q
  have S0 : wpX6_reads_0 (Cl UX (d + 11)) (fun _ _ _ _ => False) a X (fun v X1 => ∃ a0, v = some (aI a0) ∧ Cl UM (d + 12) mX7_reads [aR 24 0, aI a] M (fun v2 M1 => v2 = some (aI a0) ∧ GR X1 M1)) → OP (d + 12) mX6_reads mX7_reads [aI a] X M := fun q => clX6_reads (I29 := fun _ _ _ _ => False) a X (fun _ _ _ _ _ q => q.elim) q
  unfold wpX7_reads_0 at S
  unfold wpX6_reads_0 at S0
  by_cases hc : 0 ≤ a ∧ a ≤ 3
  · obtain ⟨s, hs, ea⟩ := in_nI (N := 3) (by omega) hc
    obtain ⟨s1, z, hz, s2, s3, s4, s5⟩ := hR.2.1 s (by omega)
    by_cases m1 : M 37 0 s = -1
    · refine S0 (xsT hc ⟨_, rfl, t2 ⟨s, ea, by omega, ?_⟩⟩)
      refine clX3_isMissing s (by omega) X ?_
      unfold wpX3_isMissing_0
      rw [s1]
      refine ⟨fun c => absurd m1 c, fun _ => ⟨_, rfl, t1 ⟨_, rfl, S _ _ (rsT hc ⟨_, rfl, t2 ⟨s, ea, by omega, fun q => ?_, fun _ => ⟨rfl, hG⟩⟩⟩)⟩⟩⟩
      rw [m1] at q; exact absurd q (by decide)
    · clear S S0
      have p1 : M 37 0 s = 0 ∨ M 37 0 s = 1 := s4.resolve_left (fun q => m1 q.1)
      have p0 : 0 ≤ M 37 0 s := by rcases p1 with q | q <;> (rw [q]; decide)
      let pass : Nat → Prop := fun i => X 23 s i = -1000000005 ∨ (i < m ∧ X 23 s i = M 25 0 (59 + 6 * i + 4))
      have isT : ∀ i, i < m → 0 ≤ nI i ∧ nI i ≤ nI m - 1 := fun i hi => plc_in (by omega) hi
      have isF : ∀ i, i < 24 → ¬ i < m → ¬ (0 ≤ nI i ∧ nI i ≤ nI m - 1) := fun i h24 hi q => by
        obtain ⟨k, k1, k2⟩ := isRoof_of hm q
        exact hi (by rw [(nI_eq (by omega) (by omega)).mp k2]; exact k1)
      have R : ∀ (k : Nat) (a0 : Int32), k ≤ z → (∀ i, i < k → pass i) → (k = z ∧ a0 = -1000000005 ∨ k < z ∧ ¬ pass k ∧ a0 = nI k) → Cl UM (d + 12) mX7_reads [aR 24 0, aI a] M (fun v2 M1 => v2 = some (aI a0) ∧ GR X M1) := by
        intro k a0 hk h0 hend
        have L : ∀ q i, i + q = k → Gq (Kp (d + 12) mX7_reads UM (fun v2 M1 => v2 = some (aI a0) ∧ GR X M1)) UM cX7_reads 4 RX7 24 [(0, aR 24 0), (1, aI a), (2, aI (nI i))] [] M := by
          intro q
          induction q with
          | zero =>
            intro i hi
            have hi : i = k := by omega
            subst hi
            refine okX7_reads_24 (I24 := fun _ _ _ => False) a _ M (fun _ _ _ q => q.elim) ?_
            unfold wpX7_reads_24
            rcases hend with ⟨e1, e2⟩ | ⟨e1, e2, e3⟩
            · subst e1
              exact ⟨s, ea, by omega, fun _ => ⟨by rw [e2], hG⟩, fun c => absurd (by rw [s3]; exact nI_le (Nat.le_refl i) (by omega)) c⟩
            · refine ⟨s, ea, by omega, fun c => ?_, fun _ => ⟨24 * s + i, ?_, by omega, fun z3 e4 => ?_⟩⟩
              · rw [s3] at c; exact absurd c (nI_ge (by omega) (by omega))
              · rw [ea, show (24 : Int32) = nI 24 from rfl, pk_mul, nI_add]
              · rw [← (s5 i e1).1] at e4
                refine ⟨fun c => absurd (Or.inl (e4.symm.trans c)) e2, fun _ => ?_⟩
                by_cases him : i < m
                · refine rrT hM (isT i him) ⟨_, rfl, t1 ?_⟩
                  refine r_of (k := 4) rfl rfl (by omega) ⟨_, rfl, fun c => ?_, fun _ => ⟨by rw [e3], hG⟩⟩
                  rw [e4] at c
                  exact absurd (Or.inr ⟨him, c⟩) e2
                · exact rrF hM (isF i (by omega) him) ⟨_, rfl, f1 ⟨by rw [e3], hG⟩⟩
          | succ q ih =>
            intro i hi
            refine okX7_reads_24 (I24 := fun x1 x2 W => x1 = a ∧ x2 = nI (i + 1) ∧ W = M) a _ M (fun x1 x2 W z => ?_) ?_
            · obtain ⟨rfl, rfl, hW⟩ := z
              rw [hW]
              exact ih (i + 1) (by omega)
            · unfold wpX7_reads_24
              have hpi := h0 i (by omega)
              refine ⟨s, ea, by omega, fun c => ?_, fun _ => ⟨24 * s + i, ?_, by omega, fun z3 e4 => ?_⟩⟩
              · rw [s3] at c; exact absurd c (nI_ge (by omega) (by omega))
              · rw [ea, show (24 : Int32) = nI 24 from rfl, pk_mul, nI_add]
              · rw [← (s5 i (by omega)).1] at e4
                refine ⟨fun _ => ⟨rfl, nI_1 i, rfl⟩, fun c => ?_⟩
                have hp2 := hpi.resolve_left (fun q => c (e4.trans q))
                refine rrT hM (isT i hp2.1) ⟨_, rfl, t1 ?_⟩
                refine r_of (k := 4) rfl rfl (by omega) ⟨_, rfl, fun _ => ⟨rfl, nI_1 i, rfl⟩, fun c => absurd ?_ c⟩
                rw [e4]
                exact hp2.2
        refine clX7_reads (I24 := fun x1 x2 W => x1 = a ∧ x2 = nI 0 ∧ W = M) a M (fun x1 x2 W z => ?_) ?_
        · obtain ⟨rfl, rfl, hW⟩ := z
          rw [hW]
          exact L k 0 (by omega)
        · unfold wpX7_reads_0
          exact rsT hc ⟨_, rfl, t2 ⟨s, ea, by omega, fun _ => ⟨rfl, rfl, rfl⟩, fun q => absurd p0 q⟩⟩
      have L : ∀ q i, i + q = z → (∀ i0, i0 < i → pass i0) → Gq (Kp (d + 12) mX6_reads UX (fun v X1 => ∃ a0, v = some (aI a0) ∧ Cl UM (d + 12) mX7_reads [aR 24 0, aI a] M (fun v2 M1 => v2 = some (aI a0) ∧ GR X1 M1))) UX cX6_reads 4 RX6 29 [(0, aR 0 0), (1, aI a), (2, aR 4 s), (3, aI (nI i))] [] X := by
        intro q
        induction q with
        | zero =>
          intro i hi h0
          have hi : i = z := by omega
          subst hi
          refine okX6_reads_29 (I29 := fun _ _ _ _ => False) a s _ (by omega) X (fun _ _ _ _ _ q => q.elim) ?_
          unfold wpX6_reads_29
          rw [s2]
          exact ⟨fun _ => ⟨_, rfl, R i _ (by omega) h0 (Or.inl ⟨rfl, rfl⟩)⟩, fun c => absurd (nI_le (Nat.le_refl i) (by omega)) c⟩
        | succ q ih =>
          intro i hi h0
          refine okX6_reads_29 (I29 := fun x1 m2 x3 W => x1 = a ∧ m2 = s ∧ x3 = nI (i + 1) ∧ W = X ∧ pass i) a s _ (by omega) X (fun x1 m2 x3 _ W z => ?_) ?_
          · obtain ⟨rfl, rfl, rfl, hW, hp⟩ := z
            rw [hW]
            refine ih (i + 1) (by omega) (fun i0 hi0 => ?_)
            by_cases e : i0 = i
            · rw [e]; exact hp
            · exact h0 i0 (by omega)
          · unfold wpX6_reads_29
            rw [s2]
            refine ⟨fun c => absurd c (nI_ge (by omega) (by omega)), fun _ => ?_⟩
            refine clX3_isNumber s (by omega) (nI i) X ?_
            unfold wpX3_isNumber_0
            refine ⟨i, rfl, by omega, fun c => ⟨_, rfl, f1 ⟨rfl, rfl, nI_1 i, rfl, Or.inl c⟩⟩, fun c => ⟨_, rfl, t1 ?_⟩⟩
            by_cases him : i < m
            · refine xrT hX (isT i him) ⟨_, rfl, t1 ⟨i, rfl, by omega, i, rfl, by omega, fun c2 => ⟨rfl, rfl, nI_1 i, rfl, Or.inr ⟨him, ?_⟩⟩, fun c2 => ⟨_, rfl, R i _ (by omega) h0 (Or.inr ⟨by omega, fun q => ?_, rfl⟩)⟩⟩⟩
              · rw [c2, q1.rf him (by omega)]
              · have q2 := q.resolve_left c
                exact c2 (by rw [q2.2, q1.rf him (by omega)])
            · exact xrF hX (isF i (by omega) him) ⟨_, rfl, f1 ⟨_, rfl, R i _ (by omega) h0 (Or.inr ⟨by omega, fun q => him (q.resolve_left c).1, rfl⟩)⟩⟩
      refine clX6_reads (I29 := fun x1 m2 x3 W => x1 = a ∧ m2 = s ∧ x3 = nI 0 ∧ W = X) a X (fun x1 m2 x3 _ W z => ?_) ?_
      · obtain ⟨rfl, rfl, rfl, hW⟩ := z
        rw [hW]
        exact L z 0 (by omega) (fun i hi => absurd hi (by omega))
      · unfold wpX6_reads_0
        refine xsT hc ⟨_, rfl, t2 ⟨s, ea, by omega, ?_⟩⟩
        refine clX3_isMissing s (by omega) X ?_
        unfold wpX3_isMissing_0
        rw [s1]
        exact ⟨fun _ => ⟨_, rfl, f1 ⟨rfl, rfl, rfl, rfl⟩⟩, fun c => absurd c m1⟩
  · exact S0 (xsF hc ⟨_, rfl, f2 ⟨_, rfl, S _ _ (rsF hc ⟨_, rfl, f2 ⟨rfl, hG⟩⟩)⟩⟩)
theorem op_pour (hG : GR X M) : OP (d + 12) mX6_pour mX7_pour [aI a] X M := by
  obtain ⟨m, T, h, hN, hR⟩ := id hG
  obtain ⟨q1, q2, q3, q4, q5, q6, q7⟩ := id hN.1
  have hm := q1.2.1
  have S : ∀ (a0 : Int32) (X1 : Mem), wpX7_pour_0 (Cl UM (d + 11)) (fun _ _ _ _ => False) a M (fun v2 M1 => v2 = some (aI a0) ∧ GR X1 M1) → Cl UM (d + 12) mX7_pour [aR 24 0, aI a] M (fun v2 M1 => v2 = some (aI a0) ∧ GR X1 M1) := fun a0 X1 q => clX7_pour (I26 := fun _ _ _ _ => False) a M (fun _ _ _ _ q => q.elim) q
  have S0 : wpX6_pour_0 (Cl UX (d + 11)) (fun _ _ _ _ _ => False) a X (fun v X1 => ∃ a0, v = some (aI a0) ∧ Cl UM (d + 12) mX7_pour [aR 24 0, aI a] M (fun v2 M1 => v2 = some (aI a0) ∧ GR X1 M1)) → OP (d + 12) mX6_pour mX7_pour [aI a] X M := fun q => clX6_pour (I32 := fun _ _ _ _ _ => False) a X (fun _ _ _ _ _ _ q => q.elim) q
  unfold wpX7_pour_0 at S
  unfold wpX6_pour_0 at S0
  by_cases hc : 0 ≤ a ∧ a ≤ 3
  · obtain ⟨s, hs, ea⟩ := in_nI (N := 3) (by omega) hc
    obtain ⟨s1, z, hz, s2, s3, s4, s5⟩ := hR.2.1 s (by omega)
    by_cases m1 : M 37 0 s = -1
    · refine S0 (xsT hc ⟨_, rfl, t2 ⟨s, ea, by omega, ?_⟩⟩)
      refine clX3_isMissing s (by omega) X ?_
      unfold wpX3_isMissing_0
      rw [s1]
      refine ⟨fun c => absurd m1 c, fun _ => ⟨_, rfl, t1 ⟨_, rfl, S _ _ (rsT hc ⟨_, rfl, t2 ⟨s, ea, by omega, fun q => ?_, fun _ => ⟨rfl, hG⟩⟩⟩)⟩⟩⟩
      rw [m1] at q; exact absurd q (by decide)
    · clear S S0
      have p1 : M 37 0 s = 0 ∨ M 37 0 s = 1 := s4.resolve_left (fun q => m1 q.1)
      have p0 : 0 ≤ M 37 0 s := by rcases p1 with q | q <;> (rw [q]; decide)
      have R : ∀ X1, RW X1 0 (gPour (M 25 0) (X 23 s) z).1 m → (∀ r i, ¬ (r = 15 ∧ i = 0) → X1 r i = X r i) → Cl UM (d + 12) mX7_pour [aR 24 0, aI a] M (fun v2 M1 => v2 = some (aI (gPour (M 25 0) (X 23 s) z).2) ∧ GR X1 M1) := by
        intro X1 hRW hF
        have L : ∀ q i, i + q = z → Gq (Kp (d + 12) mX7_pour UM (fun v2 M1 => v2 = some (aI (gPour (M 25 0) (X 23 s) z).2) ∧ GR X1 M1)) UM cX7_pour 6 RX7 26 [(0, aR 24 0), (1, aI a), (2, aI (gPour (M 25 0) (X 23 s) i).2), (3, aI (nI i))] [] (ma M 25 0 (gPour (M 25 0) (X 23 s) i).1) := by
          intro q
          induction q with
          | zero =>
            intro i hi
            have hi : i = z := by omega
            subst hi
            refine okX7_pour_26 (I26 := fun _ _ _ _ => False) a _ _ _ (fun _ _ _ _ q => q.elim) ?_
            unfold wpX7_pour_26
            rw [ma_o (show ¬ 38 = 25 by decide)]
            refine ⟨s, ea, by omega, fun _ => ⟨rfl, ?_⟩, fun c => absurd (by rw [s3]; exact nI_le (Nat.le_refl i) (by omega)) c⟩
            obtain ⟨i1, i2⟩ := gPour_inv (row := X 23 s) q3 q2 i hz
            exact GR.now hN hR (fun r j q => hF r j (fun z => q (Or.inr (Or.inr (Or.inl z))))) (hF 16 0 (by omega)) hRW i2 i1 (fun j hj => gPour_o (by omega) i hz)
          | succ q ih =>
            intro i hi
            refine okX7_pour_26 (I26 := fun x1 x2 x3 W => x1 = a ∧ x2 = (gPour (M 25 0) (X 23 s) (i + 1)).2 ∧ x3 = nI (i + 1) ∧ W = ma M 25 0 (gPour (M 25 0) (X 23 s) (i + 1)).1) a _ _ _ (fun x1 x2 x3 W z => ?_) ?_
            · obtain ⟨rfl, rfl, rfl, hW⟩ := z
              rw [hW]
              exact ih (i + 1) (by omega)
            · unfold wpX7_pour_26 wpX7_pour_76
              rw [ma_o (show ¬ 38 = 25 by decide), ma_o (show ¬ 39 = 25 by decide), ma_same]
              have e35 : (35 : Int32) + nI i = nI (35 + i) := by rw [show (35 : Int32) = nI 35 from rfl, nI_add]
              refine ⟨s, ea, by omega, fun c => ?_, fun _ => ⟨24 * s + i, ?_, by omega, fun z3 e3 => ?_⟩⟩
              · rw [s3] at c; exact absurd c (nI_ge (by omega) (by omega))
              · rw [ea, show (24 : Int32) = nI 24 from rfl, pk_mul, nI_add]
              · rw [← (s5 i (by omega)).1] at e3
                refine ⟨fun c => ?_, fun c => ⟨35 + i, e35, by omega, ?_⟩⟩
                · rw [e3] at c ⊢
                  refine r_within ⟨_, rfl, ?_⟩
                  refine r_becomes (k := 35 + i) e35 (by omega) ⟨_, rfl, ?_⟩
                  rw [ma_same, ma_ma, gPour, if_neg c]
                  exact ⟨fun c2 z4 e4 => ⟨rfl, by rw [e4, if_neg c2], nI_1 i, rfl⟩, fun c2 z4 e4 => ⟨rfl, by rw [e4, if_pos c2], nI_1 i, rfl⟩⟩
                · rw [e3] at c
                  refine r_becomes (k := 35 + i) e35 (by omega) ⟨_, rfl, ?_⟩
                  rw [ma_same, ma_ma, up_id, gPour, if_pos c]
                  exact ⟨fun c2 => absurd rfl c2, fun _ z4 e4 => ⟨rfl, by rw [e4, Int32.add_zero], nI_1 i, rfl⟩⟩
        refine clX7_pour (I26 := fun x1 x2 x3 W => x1 = a ∧ x2 = 0 ∧ x3 = nI 0 ∧ W = M) a M (fun x1 x2 x3 W z => ?_) ?_
        · obtain ⟨rfl, rfl, rfl, hW⟩ := z
          rw [hW]
          have := L z 0 (by omega)
          rw [gPour, ma_eta] at this
          exact this
        · unfold wpX7_pour_0
          exact rsT hc ⟨_, rfl, t2 ⟨s, ea, by omega, fun _ => ⟨rfl, rfl, rfl, rfl⟩, fun q => absurd p0 q⟩⟩
      have L : ∀ q i, i + q = z → ∀ V1, RW V1 0 (gPour (M 25 0) (X 23 s) i).1 m → (∀ r i, ¬ (r = 15 ∧ i = 0) → V1 r i = X r i) → Gq (Kp (d + 12) mX6_pour UX (fun v X1 => ∃ a0, v = some (aI a0) ∧ Cl UM (d + 12) mX7_pour [aR 24 0, aI a] M (fun v2 M1 => v2 = some (aI a0) ∧ GR X1 M1))) UX cX6_pour 6 RX6 32 [(0, aR 0 0), (1, aI a), (2, aR 4 s), (3, aI (gPour (M 25 0) (X 23 s) i).2), (4, aI (nI i))] [] V1 := by
        intro q
        induction q with
        | zero =>
          intro i hi V1 hV hF
          have hi : i = z := by omega
          subst hi
          refine okX6_pour_32 (I32 := fun _ _ _ _ _ => False) a s _ _ (by omega) V1 (fun _ _ _ _ _ _ q => q.elim) ?_
          unfold wpX6_pour_32
          rw [hF 4 s (by omega), s2]
          exact ⟨fun _ => ⟨_, rfl, R V1 hV hF⟩, fun c => absurd (nI_le (Nat.le_refl i) (by omega)) c⟩
        | succ q ih =>
          intro i hi V1 hV hF
          refine okX6_pour_32 (I32 := fun x1 m2 x3 x4 W => x1 = a ∧ m2 = s ∧ x3 = (gPour (M 25 0) (X 23 s) (i + 1)).2 ∧ x4 = nI (i + 1) ∧ RW W 0 (gPour (M 25 0) (X 23 s) (i + 1)).1 m ∧ (∀ r i, ¬ (r = 15 ∧ i = 0) → W r i = X r i)) a s _ _ (by omega) V1 (fun x1 m2 x3 x4 _ W z => ?_) ?_
          · obtain ⟨rfl, rfl, rfl, rfl, z1, z2⟩ := z
            exact ih (i + 1) (by omega) W z1 z2
          · unfold wpX6_pour_32
            rw [hF 4 s (by omega), s2]
            refine ⟨fun c => absurd c (nI_ge (by omega) (by omega)), fun _ => ⟨fun c => absurd c (nI_ge (b := 24) (by omega) (by omega)), fun _ => ?_⟩⟩
            refine clX3_isNumber s (by omega) (nI i) V1 ?_
            unfold wpX3_isNumber_0
            rw [hF 23 s (by omega)]
            refine ⟨i, rfl, by omega, fun c => ⟨_, rfl, f1 ⟨rfl, rfl, ?_, nI_1 i, ?_, hF⟩⟩, fun c => ⟨_, rfl, t1 ⟨i, rfl, by omega, fun z4 e4 z5 e5 => ?_⟩⟩⟩
            · rw [gPour, if_pos c]
            · rw [gPour, if_pos c]; exact hV
            · rw [hF 23 s (by omega)] at e4
              have e5 : z5 = wi (X 23 s i) 0 9 := by rw [e5, e4]; exact clamp9
              refine clX6_change_15 0 (by omega) (nI i) z5 V1 ?_
              unfold wpX6_change_15_0
              refine ⟨i, rfl, by omega, fun z2 e2 V3 e3 => ⟨_, rfl, ?_⟩⟩
              have eo : z2 = (gPour (M 25 0) (X 23 s) i).1 (35 + i) := by rw [e2, hV.fal i (by omega)]
              have hV3 : RW V3 0 (upd (gPour (M 25 0) (X 23 s) i).1 (35 + i) (wi (X 23 s i) 0 9)) m := by
                rw [e3, e5]
                exact hV.set15 (by omega) _
              have hF3 : ∀ r i, ¬ (r = 15 ∧ i = 0) → V3 r i = X r i := fun r j q => by rw [e3, mu_eq, ma_ne q, hF r j q]
              rw [gPour, if_neg c]
              refine ⟨fun c2 => ⟨rfl, rfl, ?_, nI_1 i, hV3, hF3⟩, fun c2 => ⟨rfl, rfl, ?_, nI_1 i, hV3, hF3⟩⟩
              · rw [eo, e5] at c2
                dsimp only
                rw [if_pos c2, Int32.add_zero]
              · rw [eo, e5] at c2
                dsimp only
                rw [if_neg c2]
      refine clX6_pour (I32 := fun x1 m2 x3 x4 W => x1 = a ∧ m2 = s ∧ x3 = 0 ∧ x4 = nI 0 ∧ W = X) a X (fun x1 m2 x3 x4 _ W z => ?_) ?_
      · obtain ⟨rfl, rfl, rfl, rfl, hW⟩ := z
        rw [hW]
        exact L z 0 (by omega) X q1 (fun _ _ _ => rfl)
      · unfold wpX6_pour_0
        refine xsT hc ⟨_, rfl, t2 ⟨s, ea, by omega, ?_⟩⟩
        refine clX3_isMissing s (by omega) X ?_
        unfold wpX3_isMissing_0
        rw [s1]
        exact ⟨fun _ => ⟨_, rfl, f1 ⟨rfl, rfl, rfl, rfl, rfl⟩⟩, fun c => absurd c m1⟩
  · exact S0 (xsF hc ⟨_, rfl, f2 ⟨_, rfl, S _ _ (rsF hc ⟨_, rfl, f2 ⟨rfl, hG⟩⟩)⟩⟩)
end OPS15
