/-! ===== the calls, side by side: copy ===== -/
section OPS19
variable {d D : Nat} {V W X M X1 M1 : Mem} {P : Option AV → Mem → Prop} {w v m h T i j k r t u q m1 h1 s p z1 z2 : Nat} {n n1 : NF} {a b c x y z kk ss : Int32} {B B1 : Int}
theorem r_copied (e1 : a = nI s) (hs : s < 4) (e2 : b = nI p) (e3 : c = nI t) (ht : t < 4) (e4 : x = nI q) (e5 : y = nI k) (g1 : ¬ M 37 0 s < 0) (g2 : 0 ≤ M 37 0 t) (g3 : M 37 0 s = M 37 0 t) (g4 : M 38 0 s = nI z1) (g5 : M 38 0 t = nI z2) (hz1 : z1 ≤ 24) (hz2 : z2 ≤ 24) (l1 : p + k ≤ z1) (l2 : q + k ≤ z2)
    (hp : ∀ M1, (∀ r, ¬ r = 39 → ¬ r = 44 → M1 r 0 = M r 0) → (∀ j, ¬ (24 * t + q ≤ j ∧ j < 24 * t + q + k) → M1 39 0 j = M 39 0 j) → (∀ i, i < k → M1 39 0 (24 * t + q + i) = M 39 0 (24 * s + p + i)) → P (some (aI y)) M1) : Cl UM (d + 3) mX7_copy [aR 24 0, aI a, aI b, aI c, aI x, aI y] M P := by
  have L2 : ∀ n i, i + n = k → ∀ V1, (∀ r, ¬ r = 39 → ¬ r = 44 → V1 r 0 = M r 0) → (∀ i, i < k → V1 44 0 i = M 39 0 (24 * s + p + i)) → (∀ j, ¬ (24 * t + q ≤ j ∧ j < 24 * t + q + i) → V1 39 0 j = M 39 0 j) → (∀ i0, i0 < i → V1 39 0 (24 * t + q + i0) = M 39 0 (24 * s + p + i0)) → Gq (Kp (d + 3) mX7_copy UM P) UM cX7_copy 7 RX7 140 [(0, aR 24 0), (1, aI a), (2, aI b), (3, aI c), (4, aI x), (5, aI y), (6, aI (nI i))] [] V1 := by
    intro n
    induction n with
    | zero =>
      intro i hi V1 a1 a2 a3 a4
      have hi : i = k := by omega
      subst hi
      refine okX7_copy_140 (I103 := fun _ _ _ _ _ _ _ => False) (I140 := fun _ _ _ _ _ _ _ => False) a b c x y _ V1 (fun _ _ _ _ _ _ _ q => q.elim) (fun _ _ _ _ _ _ _ q => q.elim) ?_
      unfold wpX7_copy_140
      rw [e5]
      exact ⟨fun _ => by rw [← e5]; exact hp V1 a1 a3 a4, fun c => absurd (nI_le (Nat.le_refl i) (by omega)) c⟩
    | succ n ih =>
      intro i hi V1 a1 a2 a3 a4
      refine okX7_copy_140 (I103 := fun _ _ _ _ _ _ _ => False) (I140 := fun x1 x2 x3 x4 x5 x6 W => x1 = a ∧ x2 = b ∧ x3 = c ∧ x4 = x ∧ x5 = y ∧ x6 = nI (i + 1) ∧ (∀ r, ¬ r = 39 → ¬ r = 44 → W r 0 = M r 0) ∧ (∀ i, i < k → W 44 0 i = M 39 0 (24 * s + p + i)) ∧ (∀ j, ¬ (24 * t + q ≤ j ∧ j < 24 * t + q + (i + 1)) → W 39 0 j = M 39 0 j) ∧ (∀ i0, i0 < i + 1 → W 39 0 (24 * t + q + i0) = M 39 0 (24 * s + p + i0))) a b c x y _ V1 (fun _ _ _ _ _ _ _ q => q.elim) (fun x1 x2 x3 x4 x5 x6 W z => ?_) ?_
      · obtain ⟨rfl, rfl, rfl, rfl, rfl, rfl, b1, b2, b3, b4⟩ := z
        exact ih (i + 1) (by omega) W b1 b2 b3 b4
      · unfold wpX7_copy_140
        refine ⟨fun c => ?_, fun _ => ⟨i, rfl, by omega, 24 * t + q + i, ?_, by omega, fun V3 e3' => ⟨rfl, rfl, rfl, rfl, rfl, nI_1 i, fun r c1 c2 => ?_, fun i0 hi0 => ?_, fun j hj => ?_, fun i0 hi0 => ?_⟩⟩⟩
        · rw [e5] at c; exact absurd c (nI_ge (by omega) (by omega))
        · rw [e3, e4, show (24 : Int32) = nI 24 from rfl, pk_mul, nI_add, nI_add]
        · rw [e3', mu_o c1, a1 r c1 c2]
        · rw [e3', mu_o (by decide), a2 i0 hi0]
        · rw [e3', mu_sn (by omega), a3 j (by omega)]
        · by_cases e : i0 = i
          · rw [e, e3', mu_sk, a2 i (by omega)]
          · rw [e3', mu_sn (by omega), a4 i0 (by omega)]
  have L1 : ∀ n i, i + n = k → ∀ V1, (∀ r, ¬ r = 44 → V1 r 0 = M r 0) → (∀ i0, i0 < i → V1 44 0 i0 = M 39 0 (24 * s + p + i0)) → Gq (Kp (d + 3) mX7_copy UM P) UM cX7_copy 7 RX7 103 [(0, aR 24 0), (1, aI a), (2, aI b), (3, aI c), (4, aI x), (5, aI y), (6, aI (nI i))] [] V1 := by
    intro n
    induction n with
    | zero =>
      intro i hi V1 a1 a2
      have hi : i = k := by omega
      subst hi
      refine okX7_copy_103 (I103 := fun _ _ _ _ _ _ _ => False) (I140 := fun x1 x2 x3 x4 x5 x6 W => x1 = a ∧ x2 = b ∧ x3 = c ∧ x4 = x ∧ x5 = y ∧ x6 = nI 0 ∧ W = V1) a b c x y _ V1 (fun _ _ _ _ _ _ _ q => q.elim) (fun x1 x2 x3 x4 x5 x6 W z => ?_) ?_
      · obtain ⟨rfl, rfl, rfl, rfl, rfl, rfl, hW⟩ := z
        rw [hW]
        exact L2 i 0 (by omega) V1 (fun r _ c => a1 r c) a2 (fun j _ => by rw [a1 39 (by decide)]) (fun i0 h0 => absurd h0 (by omega))
      · unfold wpX7_copy_103
        refine ⟨fun _ => ⟨rfl, rfl, rfl, rfl, rfl, rfl, rfl⟩, fun c => absurd ?_ c⟩
        rw [e5]
        exact nI_le (Nat.le_refl i) (by omega)
    | succ n ih =>
      intro i hi V1 a1 a2
      refine okX7_copy_103 (I103 := fun x1 x2 x3 x4 x5 x6 W => x1 = a ∧ x2 = b ∧ x3 = c ∧ x4 = x ∧ x5 = y ∧ x6 = nI (i + 1) ∧ (∀ r, ¬ r = 44 → W r 0 = M r 0) ∧ (∀ i0, i0 < i + 1 → W 44 0 i0 = M 39 0 (24 * s + p + i0))) (I140 := fun _ _ _ _ _ _ _ => False) a b c x y _ V1 (fun x1 x2 x3 x4 x5 x6 W z => ?_) (fun _ _ _ _ _ _ _ q => q.elim) ?_
      · obtain ⟨rfl, rfl, rfl, rfl, rfl, rfl, b1, b2⟩ := z
        exact ih (i + 1) (by omega) W b1 b2
      · unfold wpX7_copy_103
        refine ⟨fun c => ?_, fun _ => ⟨24 * s + p + i, ?_, by omega, i, rfl, by omega, fun V3 e3' => ⟨rfl, rfl, rfl, rfl, rfl, nI_1 i, fun r c1 => ?_, fun i0 hi0 => ?_⟩⟩⟩
        · rw [e5] at c; exact absurd c (nI_ge (by omega) (by omega))
        · rw [e1, e2, show (24 : Int32) = nI 24 from rfl, pk_mul, nI_add, nI_add]
        · rw [e3', mu_o c1, a1 r c1]
        · by_cases e : i0 = i
          · rw [e, e3', mu_sk, a1 39 (by decide)]
          · rw [e3', mu_sn (by omega), a2 i0 (by omega)]
  refine clX7_copy (I103 := fun x1 x2 x3 x4 x5 x6 W => x1 = a ∧ x2 = b ∧ x3 = c ∧ x4 = x ∧ x5 = y ∧ x6 = nI 0 ∧ W = M) (I140 := fun _ _ _ _ _ _ _ => False) a b c x y M (fun x1 x2 x3 x4 x5 x6 W z => ?_) (fun _ _ _ _ _ _ _ q => q.elim) ?_
  · obtain ⟨rfl, rfl, rfl, rfl, rfl, rfl, hW⟩ := z
    rw [hW]
    exact L1 k 0 (by omega) M (fun _ _ => rfl) (fun i0 h0 => absurd h0 (by omega))
  · unfold wpX7_copy_0
    have c1 : 0 ≤ a ∧ a ≤ 3 := by rw [e1]; exact ⟨nI_le (a := 0) (by omega) (by omega), nI_le (b := 3) (by omega) (by omega)⟩
    have c2 : 0 ≤ c ∧ c ≤ 3 := by rw [e3]; exact ⟨nI_le (a := 0) (by omega) (by omega), nI_le (b := 3) (by omega) (by omega)⟩
    refine rsT c1 ⟨_, rfl, t1 (rsT c2 ⟨_, rfl, t2 ⟨s, e1, hs, fun q => absurd q g1, fun _ => ⟨t, e3, ht, fun _ => ⟨fun _ => ⟨fun q => ?_, fun _ => ⟨fun q => ?_, fun _ => ⟨fun q => ?_, fun _ => ⟨fun q => ?_, fun _ => ⟨fun _ => ⟨rfl, rfl, rfl, rfl, rfl, rfl, rfl⟩, fun q => absurd ?_ q⟩⟩⟩⟩⟩, fun q => absurd g3 q⟩, fun q => absurd g2 q⟩⟩⟩)⟩
    · rw [e2] at q; exact absurd q (nI_pos (by omega))
    · rw [e4] at q; exact absurd q (nI_pos (by omega))
    · rw [e5] at q; exact absurd q (nI_pos (by omega))
    · rw [g4, e5, e2, pk_sub (by omega)] at q
      exact absurd ((nI_ltI (by omega) (by omega)).mp q) (by omega)
    · rw [g5, e5, e4, pk_sub (by omega)]
      exact nI_le (by omega) (by omega)
/-- places that a row hasn't -/
theorem no_places (hz : u ≤ 24) (hb : ¬ b < 0) (hc : ¬ c < 0) (hq : ¬ nI u - c < b) : ∃ p q, b = nI p ∧ c = nI q ∧ p + q ≤ u := by
  obtain ⟨q, q1, q2⟩ := nI_of hc
  obtain ⟨p, p1, p2⟩ := nI_of hb
  refine ⟨p, q, p2, q2, ?_⟩
  rw [q2, p2, ti_lt, ti_sub (by rw [nI_toInt (by omega), nI_toInt q1]; omega) (by rw [nI_toInt (by omega), nI_toInt q1]; omega), nI_toInt (by omega), nI_toInt q1, nI_toInt p1] at hq
  omega
theorem op_copy (hG : GR X M) : OP (d + 12) mX6_copy mX7_copy [aI a, aI b, aI c, aI x, aI y] X M := by
  obtain ⟨m, T, h, hN, hR⟩ := id hG
  refine clX6_copy a b c x y X ?_
  unfold wpX6_copy_0
  have S : ∀ (a0 : Int32) (X1 : Mem), wpX7_copy_0 (Cl UM (d + 11)) (fun _ _ _ _ _ _ _ => False) (fun _ _ _ _ _ _ _ => False) a b c x y M (fun v2 M1 => v2 = some (aI a0) ∧ GR X1 M1) → Cl UM (d + 12) mX7_copy [aR 24 0, aI a, aI b, aI c, aI x, aI y] M (fun v2 M1 => v2 = some (aI a0) ∧ GR X1 M1) := fun a0 X1 q => clX7_copy (I103 := fun _ _ _ _ _ _ _ => False) (I140 := fun _ _ _ _ _ _ _ => False) a b c x y M (fun _ _ _ _ _ _ _ q => q.elim) (fun _ _ _ _ _ _ _ q => q.elim) q
  unfold wpX7_copy_0 at S
  by_cases hc : 0 ≤ a ∧ a ≤ 3
  · refine xsT hc ⟨_, rfl, t1 ?_⟩
    by_cases hc2 : 0 ≤ c ∧ c ≤ 3
    · obtain ⟨s, hs, ea⟩ := in_nI (N := 3) (by omega) hc
      obtain ⟨t, ht, ec⟩ := in_nI (N := 3) (by omega) hc2
      obtain ⟨s1, zs, hzs, s2, s3, s4, s5⟩ := id (hR.2.1 s (by omega))
      obtain ⟨t1', zt, hzt, t2', t3, t4, t5⟩ := id (hR.2.1 t (by omega))
      refine xsT hc2 ⟨_, rfl, t2 ⟨s, ea, by omega, t, ec, by omega, ?_⟩⟩
      refine clX3_isMissing s (by omega) X ?_
      unfold wpX3_isMissing_0
      rw [s1]
      refine ⟨fun ms => ⟨_, rfl, f2 ?_⟩, fun ms => ⟨_, rfl, t2 ⟨_, rfl, S _ _ (rsT hc ⟨_, rfl, t1 (rsT hc2 ⟨_, rfl, t2 ⟨s, ea, by omega, fun _ => ⟨rfl, hG⟩, fun q => absurd (by rw [ms]; decide) q⟩⟩)⟩)⟩⟩⟩
      have ps : M 37 0 s = 0 ∨ M 37 0 s = 1 := s4.resolve_left (fun q => ms q.1)
      have ps0 : ¬ M 37 0 s < 0 := by rcases ps with q | q <;> (rw [q]; decide)
      refine clX3_isMissing t (by omega) X ?_
      unfold wpX3_isMissing_0
      rw [t1']
      refine ⟨fun mt => ⟨_, rfl, f1 ?_⟩, fun mt => ⟨_, rfl, t1 ⟨_, rfl, S _ _ (rsT hc ⟨_, rfl, t1 (rsT hc2 ⟨_, rfl, t2 ⟨s, ea, by omega, fun q => absurd q ps0, fun _ => ⟨t, ec, by omega, fun q => absurd q (by rw [mt]; decide), fun _ => ⟨rfl, hG⟩⟩⟩⟩)⟩)⟩⟩⟩
      have pt : M 37 0 t = 0 ∨ M 37 0 t = 1 := t4.resolve_left (fun q => mt q.1)
      have pt0 : 0 ≤ M 37 0 t := by rcases pt with q | q <;> (rw [q]; decide)
      rw [s1, t1']
      refine ⟨fun est => ?_, fun nst => ⟨_, rfl, S _ _ (rsT hc ⟨_, rfl, t1 (rsT hc2 ⟨_, rfl, t2 ⟨s, ea, by omega, fun q => absurd q ps0, fun _ => ⟨t, ec, by omega, fun _ => ⟨fun q => absurd q nst, fun _ => ⟨rfl, hG⟩⟩, fun q => absurd pt0 q⟩⟩⟩)⟩)⟩⟩
      -- an index that isn't there
      have N : ¬ ((∃ p q, b = nI p ∧ y = nI q ∧ p + q ≤ zs) ∧ ∃ p q, x = nI p ∧ y = nI q ∧ p + q ≤ zt) → Cl UM (d + 12) mX7_copy [aR 24 0, aI a, aI b, aI c, aI x, aI y] M (fun v2 M1 => v2 = some (aI (-1000000013)) ∧ GR X M1) := by
        intro no
        refine S _ _ (rsT hc ⟨_, rfl, t1 (rsT hc2 ⟨_, rfl, t2 ⟨s, ea, by omega, fun q => absurd q ps0, fun _ => ⟨t, ec, by omega, fun _ => ⟨fun _ => ⟨fun _ => ⟨rfl, hG⟩, fun b0 => ⟨fun _ => ⟨rfl, hG⟩, fun x0 => ⟨fun _ => ⟨rfl, hG⟩, fun y0 => ⟨fun _ => ⟨rfl, hG⟩, fun k1 => ⟨fun k2 => ?_, fun _ => ⟨rfl, hG⟩⟩⟩⟩⟩⟩, fun q => absurd est q⟩, fun q => absurd pt0 q⟩⟩⟩)⟩)
        rw [s3] at k1
        rw [t3] at k2
        exact no ⟨no_places hzs b0 y0 k1, no_places hzt x0 y0 (le_nlt k2)⟩
      refine x_hasPlaces (by omega) s2 hzs (fun p q eb ey lp => ⟨_, rfl, t1 ?_⟩) (fun no => ⟨_, rfl, f1 ⟨_, rfl, N (fun q => no q.1)⟩⟩)
      refine x_hasPlaces (by omega) t2' hzt (fun p' q' ex ey' lp' => ⟨_, rfl, t2 ?_⟩) (fun no => ⟨_, rfl, f2 ⟨_, rfl, N (fun q => no q.2)⟩⟩)
      have eqq : q' = q := (nI_eq (by omega) (by omega)).mp (ey'.symm.trans ey)
      subst eqq
      refine ⟨p, p', q', eb, ex, ey, by omega, by omega, fun V18 e18 => ⟨_, rfl, ?_⟩⟩
      refine r_copied (d := d + 9) ea (by omega) eb ec (by omega) ex ey ps0 pt0 est s3 t3 hzs hzt lp lp' (fun M1 m1 m2 m3 => ⟨rfl, ?_⟩)
      have G1 : GR V18 (ma M1 44 0 (M 44 0)) := by
        refine GR.sh hN hR (s := t) (by omega) (fun r i _ c2 => by rw [e18, ma_ne c2]) (fun r _ _ c3 => ?_) (fun i _ => ?_) (fun i _ => ?_) (fun j hj => ?_) ?_
        · by_cases e : r = 44
          · rw [e, ma_same]
          · rw [ma_o e, m1 r c3 e]
        · rw [ma_o (by decide), m1 37 (by decide) (by decide)]
        · rw [ma_o (by decide), m1 38 (by decide) (by decide)]
        · rw [ma_o (by decide), m2 j (by omega)]
        · unfold ShR
          rw [e18, ma_o (show ¬ 4 = 23 by decide), ma_same, ma_o (show ¬ 37 = 44 by decide), ma_o (show ¬ 38 = 44 by decide), ma_o (show ¬ 39 = 44 by decide), m1 37 (by decide) (by decide), m1 38 (by decide) (by decide)]
          refine ⟨t1', zt, hzt, t2', t3, t4, fun i hi => ?_⟩
          by_cases hin : p' ≤ i ∧ i < p' + q'
          · rw [pk_cpy_in hin.1 hin.2, show 24 * t + i = 24 * t + p' + (i - p') by omega, m3 (i - p') (by omega), show 24 * s + p + (i - p') = 24 * s + (p + (i - p')) by omega]
            exact s5 (p + (i - p')) (by omega)
          · rw [pk_cpy_out (by omega), m2 _ (by omega)]
            exact t5 i hi
      exact G1.m44 (fun r c => (ma_o c).symm)
    · exact xsF hc2 ⟨_, rfl, f2 ⟨_, rfl, S _ _ (rsT hc ⟨_, rfl, t1 (rsF hc2 ⟨_, rfl, f2 ⟨rfl, hG⟩⟩)⟩)⟩⟩
  · exact xsF hc ⟨_, rfl, f1 ⟨_, rfl, S _ _ (rsF hc ⟨_, rfl, f1 ⟨rfl, hG⟩⟩)⟩⟩
end OPS19
