/-! ===== the calls, side by side: sheet, mark ===== -/
section OPS13
variable {d D : Nat} {V W X M X1 M1 : Mem} {P : Option AV → Mem → Prop} {w v m h T i j k r t u q m1 h1 s : Nat} {n n1 : NF} {a b c x y z kk ss : Int32} {B B1 : Int}
theorem x_shbegin (hs : s < 9) (hp : ∀ V1, (∀ r i, ¬ (r = 4 ∧ i = s) → ¬ (r = 23 ∧ i = s) → V1 r i = V r i) → V1 4 s 0 = x → V1 4 s 1 = y → (∀ j, j < 24 → V1 23 s j = 0) → P none V1) : Cl UX (d + 1) mX3_begin [aR 4 s, aI x, aI y] V P := by
  have L : ∀ q i, i + q = 24 → ∀ V1, (∀ r i, ¬ (r = 4 ∧ i = s) → ¬ (r = 23 ∧ i = s) → V1 r i = V r i) → V1 4 s 0 = x → V1 4 s 1 = y → (∀ j, j < i → V1 23 s j = 0) → Gq (Kp (d + 1) mX3_begin UX P) UX cX3_begin 4 RX3 12 [(0, aR 4 s), (1, aI x), (2, aI y), (3, aI (nI i))] [] V1 := by
    intro q
    induction q with
    | zero =>
      intro i hi V1 h1 h2 h3 h4
      have hi : i = 24 := by omega
      subst hi
      refine okX3_begin_12 (I12 := fun _ _ _ _ => False) s hs x y _ V1 (fun _ _ _ _ q => q.elim) ?_
      unfold wpX3_begin_12
      exact ⟨fun _ => hp V1 h1 h2 h3 h4, fun c => absurd (by decide) c⟩
    | succ q ih =>
      intro i hi V1 h1 h2 h3 h4
      refine okX3_begin_12 (I12 := fun x1 x2 x3 W => x1 = x ∧ x2 = y ∧ x3 = nI (i + 1) ∧ (∀ r i, ¬ (r = 4 ∧ i = s) → ¬ (r = 23 ∧ i = s) → W r i = V r i) ∧ W 4 s 0 = x ∧ W 4 s 1 = y ∧ (∀ j, j < i + 1 → W 23 s j = 0)) s hs x y _ V1 (fun x1 x2 x3 W z => ?_) ?_
      · obtain ⟨rfl, rfl, rfl, z1, z2, z3, z4⟩ := z
        exact ih (i + 1) (by omega) W z1 z2 z3 z4
      · unfold wpX3_begin_12
        refine ⟨fun c => absurd c (nI_ge (b := 24) (by omega) (by omega)), fun _ => ⟨i, rfl, by omega, fun V2 e2 => ⟨rfl, rfl, nI_1 i, fun r i a b => ?_, ?_, ?_, fun j hj => ?_⟩⟩⟩
        · rw [e2, mu_eq, ma_ne b, h1 r i a b]
        · rw [e2, mu_o (by decide), h2]
        · rw [e2, mu_o (by decide), h3]
        · by_cases e : j = i
          · rw [e, e2, mu_sk]
          · rw [e2, mu_sn e, h4 j (by omega)]
  refine clX3_begin (I12 := fun x1 x2 x3 W => x1 = x ∧ x2 = y ∧ x3 = nI 0 ∧ W = mu (mu V 4 s 0 x) 4 s 1 y) s hs x y V (fun x1 x2 x3 W z => ?_) ?_
  · obtain ⟨rfl, rfl, rfl, hW⟩ := z
    rw [hW]
    refine L 24 0 (by omega) _ (fun r i a b => ?_) ?_ ?_ (fun j hj => absurd hj (by omega))
    · rw [mu_eq, ma_ne a, mu_eq, ma_ne a]
    · rw [mu_sn (by omega), mu_sk]
    · rw [mu_sk]
  · unfold wpX3_begin_0
    intro V1 e1 V2 e2
    exact ⟨rfl, rfl, rfl, by rw [e2, e1]⟩
theorem op_sheet (hG : GR X M) : OP (d + 12) mX6_sheet mX7_sheet [aI a, aI b, aI c] X M := by
  obtain ⟨m, T, h, hN, hR⟩ := id hG
  refine clX6_sheet a b c X ?_
  unfold wpX6_sheet_0
  have S : ∀ (a0 : Int32) (X1 : Mem), wpX7_sheet_0 (Cl UM (d + 11)) (fun _ _ _ _ _ => False) a b c M (fun v2 M1 => v2 = some (aI a0) ∧ GR X1 M1) → Cl UM (d + 12) mX7_sheet [aR 24 0, aI a, aI b, aI c] M (fun v2 M1 => v2 = some (aI a0) ∧ GR X1 M1) := fun a0 X1 q => clX7_sheet (I65 := fun _ _ _ _ _ => False) a b c M (fun _ _ _ _ _ q => q.elim) q
  unfold wpX7_sheet_0 wpX7_sheet_29 at S
  by_cases hc : 0 ≤ a ∧ a ≤ 3
  · obtain ⟨s, hs, ea⟩ := in_nI (N := 3) (by omega) hc
    by_cases hc2 : -1 ≤ b ∧ b ≤ 1
    · -- the reference, when the sheet is made anew
      have R : ∀ (y : Int32) (X1 : Mem), (¬ b < 0 → c ≤ 24 ∧ 0 ≤ c) → (b < 0 → y = 0) → (¬ b < 0 → y = c) → (∀ r i, ¬ (r = 4 ∧ i = s) → ¬ (r = 23 ∧ i = s) → X1 r i = X r i) → (∀ M1, M1 37 0 s = b → M1 38 0 s = y → (∀ k, k < 24 → M1 39 0 (24 * s + k) = 0) → ShR X1 M1 s) → Cl UM (d + 12) mX7_sheet [aR 24 0, aI a, aI b, aI c] M (fun v2 M1 => v2 = some (aI y) ∧ GR X1 M1) := by
        intro y X1 g1 g2 g3 hX1 hS
        have L : ∀ q i, i + q = 24 → ∀ V1, (∀ r, ¬ r = 37 → ¬ r = 38 → ¬ r = 39 → V1 r 0 = M r 0) → (∀ t, ¬ t = s → V1 37 0 t = M 37 0 t) → (∀ t, ¬ t = s → V1 38 0 t = M 38 0 t) → (∀ p, ¬ (24 * s ≤ p ∧ p < 24 * s + 24) → V1 39 0 p = M 39 0 p) → V1 37 0 s = b → V1 38 0 s = y → (∀ k, k < i → V1 39 0 (24 * s + k) = 0) → Gq (Kp (d + 12) mX7_sheet UM (fun v2 M1 => v2 = some (aI y) ∧ GR X1 M1)) UM cX7_sheet 5 RX7 65 [(0, aR 24 0), (1, aI a), (2, aI b), (3, aI c), (4, aI (nI i))] [] V1 := by
          intro q
          induction q with
          | zero =>
            intro i hi V1 h0 h37 h38 h39 e37 e38 e39
            have hi : i = 24 := by omega
            subst hi
            refine okX7_sheet_65 (I65 := fun _ _ _ _ _ => False) a b c _ V1 (fun _ _ _ _ _ q => q.elim) ?_
            unfold wpX7_sheet_65
            exact ⟨fun _ => ⟨s, ea, by omega, by rw [e38], GR.sh hN hR (by omega) hX1 h0 h37 h38 h39 (hS V1 e37 e38 e39)⟩, fun c => absurd (by decide) c⟩
          | succ q ih =>
            intro i hi V1 h0 h37 h38 h39 e37 e38 e39
            refine okX7_sheet_65 (I65 := fun x1 x2 x3 x4 W => x1 = a ∧ x2 = b ∧ x3 = c ∧ x4 = nI (i + 1) ∧ (∀ r, ¬ r = 37 → ¬ r = 38 → ¬ r = 39 → W r 0 = M r 0) ∧ (∀ t, ¬ t = s → W 37 0 t = M 37 0 t) ∧ (∀ t, ¬ t = s → W 38 0 t = M 38 0 t) ∧ (∀ p, ¬ (24 * s ≤ p ∧ p < 24 * s + 24) → W 39 0 p = M 39 0 p) ∧ W 37 0 s = b ∧ W 38 0 s = y ∧ (∀ k, k < i + 1 → W 39 0 (24 * s + k) = 0)) a b c _ V1 (fun x1 x2 x3 x4 W z => ?_) ?_
            · obtain ⟨rfl, rfl, rfl, rfl, z1, z2, z3, z4, z5, z6, z7⟩ := z
              exact ih (i + 1) (by omega) W z1 z2 z3 z4 z5 z6 z7
            · unfold wpX7_sheet_65
              refine ⟨fun c => absurd c (nI_ge (b := 24) (by omega) (by omega)), fun _ => ⟨24 * s + i, ?_, by omega, fun V2 e2 => ⟨rfl, rfl, rfl, nI_1 i, fun r a b c => ?_, fun t ht => ?_, fun t ht => ?_, fun p hp => ?_, ?_, ?_, fun k hk => ?_⟩⟩⟩
              · rw [ea, show (24 : Int32) = nI 24 from rfl, pk_mul, nI_add]
              · rw [e2, mu_o c, h0 r a b c]
              · rw [e2, mu_o (by decide), h37 t ht]
              · rw [e2, mu_o (by decide), h38 t ht]
              · rw [e2, mu_sn (by omega), h39 p hp]
              · rw [e2, mu_o (by decide), e37]
              · rw [e2, mu_o (by decide), e38]
              · by_cases e : k = i
                · rw [e, e2, mu_sk]
                · rw [e2, mu_sn (by omega), e39 k (by omega)]
        refine clX7_sheet (I65 := fun x1 x2 x3 x4 W => x1 = a ∧ x2 = b ∧ x3 = c ∧ x4 = nI 0 ∧ (∀ r, ¬ r = 37 → ¬ r = 38 → ¬ r = 39 → W r 0 = M r 0) ∧ (∀ t, ¬ t = s → W 37 0 t = M 37 0 t) ∧ (∀ t, ¬ t = s → W 38 0 t = M 38 0 t) ∧ (∀ p, ¬ (24 * s ≤ p ∧ p < 24 * s + 24) → W 39 0 p = M 39 0 p) ∧ W 37 0 s = b ∧ W 38 0 s = y) a b c M (fun x1 x2 x3 x4 W z => ?_) ?_
        · obtain ⟨rfl, rfl, rfl, rfl, z1, z2, z3, z4, z5, z6⟩ := z
          exact L 24 0 (by omega) W z1 z2 z3 z4 z5 z6 (fun k hk => absurd hk (by omega))
        · have K : ∀ V2 V3, V2 = mu M 37 0 s b → V3 = mu V2 38 0 s y → (∀ r, ¬ r = 37 → ¬ r = 38 → ¬ r = 39 → V3 r 0 = M r 0) ∧ (∀ t, ¬ t = s → V3 37 0 t = M 37 0 t) ∧ (∀ t, ¬ t = s → V3 38 0 t = M 38 0 t) ∧ (∀ p, ¬ (24 * s ≤ p ∧ p < 24 * s + 24) → V3 39 0 p = M 39 0 p) ∧ V3 37 0 s = b ∧ V3 38 0 s = y := by
            intro V2 V3 e2 e3
            refine ⟨fun r a b _ => ?_, fun t ht => ?_, fun t ht => ?_, fun p _ => ?_, ?_, ?_⟩
            · rw [e3, mu_o b, e2, mu_o a]
            · rw [e3, mu_o (by decide), e2, mu_sn ht]
            · rw [e3, mu_sn ht, e2, mu_o (by decide)]
            · rw [e3, mu_o (by decide), e2, mu_o (by decide)]
            · rw [e3, mu_o (by decide), e2, mu_sk]
            · rw [e3, mu_sk]
          unfold wpX7_sheet_0 wpX7_sheet_29 wpX7_sheet_40
          refine rsT hc ⟨_, rfl, t1 (rwT hc2 ⟨_, rfl, t1 ⟨fun n1 => ⟨fun _ => ⟨s, ea, by omega, fun V2 e2 => ⟨fun p0 => ?_, fun _ V3 e3 => ⟨rfl, rfl, rfl, rfl, K V2 V3 e2 (by rw [g2 n1]; exact e3)⟩⟩⟩, fun q => absurd n1 q⟩, fun n1 => ⟨fun _ => ⟨fun q => absurd q n1, fun _ => ⟨fun _ => ⟨s, ea, by omega, fun V2 e2 => ⟨fun _ V3 e3 => ⟨rfl, rfl, rfl, rfl, K V2 V3 e2 (by rw [g3 n1]; exact e3)⟩, fun p0 => ?_⟩⟩, fun q => absurd (g1 n1).2 q⟩⟩, fun q => absurd (g1 n1).1 q⟩⟩⟩)⟩
          · rw [ti_lt, ti0] at n1
            rw [ti_le, ti0] at p0
            omega
          · rw [ti_lt, ti0] at n1
            rw [ti_le, ti0] at p0
            omega
      refine xsT hc ⟨_, rfl, t1 (xwT hc2 ⟨_, rfl, t2 ⟨fun b1 => ?_, fun b1 => ⟨s, ea, by omega, ?_⟩⟩⟩)⟩
      · have hb := rng_of (l := -1) (u := 1) rfl rfl hc2
        have hb1 : ¬ b.toInt = -1 := fun q => b1 (ti_eq.mpr q)
        have nb : ¬ b < 0 := fun q => by rw [ti_lt, ti0] at q; omega
        have S1 : ∀ (a0 : Int32), ((c ≤ 24 → ¬ 0 ≤ c ∧ a0 = -1000000014) ∧ (¬ c ≤ 24 → a0 = -1000000001)) → Cl UM (d + 12) mX7_sheet [aR 24 0, aI a, aI b, aI c] M (fun v2 M1 => v2 = some (aI a0) ∧ GR X M1) := by
          intro a0 q
          refine S _ _ (rsT hc ⟨_, rfl, t1 (rwT hc2 ⟨_, rfl, t1 ⟨fun z => absurd z nb, fun _ => ⟨fun c1 => ⟨fun z => absurd z nb, fun _ => ⟨fun c2 => absurd c2 (q.1 c1).1, fun _ => ⟨by rw [(q.1 c1).2], hG⟩⟩⟩, fun c1 => ⟨by rw [q.2 c1], hG⟩⟩⟩⟩)⟩)
        refine ⟨fun c1 => ⟨fun c2 => ⟨s, ea, by omega, ?_⟩, fun c2 => ⟨_, rfl, S1 _ ⟨fun _ => ⟨c2, rfl⟩, fun q => absurd c1 q⟩⟩⟩, fun c1 => ⟨_, rfl, S1 _ ⟨fun q => absurd q c1, fun _ => rfl⟩⟩⟩
        obtain ⟨k, hk, ec⟩ := in_nI (N := 24) (by omega) ⟨c2, c1⟩
        refine x_shbegin (by omega) (fun V1 h1 h2 h3 h4 => ⟨rfl, _, rfl, ?_⟩)
        refine R c V1 (fun _ => ⟨c1, c2⟩) (fun q => absurd q nb) (fun _ => rfl) h1 (fun M1 e37 e38 e39 => ?_)
        refine ⟨by rw [h2, e37], k, hk, by rw [h3, ec], by rw [e38, ec], ?_, fun i hi => ⟨by rw [h4 i (by omega), e39 i (by omega)], ?_⟩⟩
        · rw [e37]
          rcases (show b.toInt = 0 ∨ b.toInt = 1 by omega) with e | e
          · exact Or.inr (Or.inl (ti_eq.mpr e))
          · exact Or.inr (Or.inr (ti_eq.mpr e))
        · rw [h4 i (by omega), ti0]
          omega
      · refine clX3_lose s (by omega) X ?_
        unfold wpX3_lose_0
        intro V1 e1 V2 e2
        refine ⟨rfl, _, rfl, ?_⟩
        refine R 0 V2 (fun q => absurd (by rw [b1]; decide) q) (fun _ => rfl) (fun q => absurd (by rw [b1]; decide) q) (fun r i a _ => ?_) (fun M1 e37 e38 e39 => ?_)
        · rw [e2, mu_eq, ma_ne a, e1, mu_eq, ma_ne a]
        · refine ⟨?_, 0, by omega, by rw [e2, mu_sk]; rfl, by rw [e38]; rfl, Or.inl ⟨by rw [e37, b1], rfl⟩, fun k hk => absurd hk (by omega)⟩
          rw [e2, mu_sn (by omega), e1, mu_sk, e37, b1]
    · exact xsT hc ⟨_, rfl, t1 (xwF hc2 ⟨_, rfl, f2 ⟨_, rfl, S _ _ (rsT hc ⟨_, rfl, t1 (rwF hc2 ⟨_, rfl, f1 ⟨rfl, hG⟩⟩)⟩)⟩⟩)⟩
  · exact xsF hc ⟨_, rfl, f1 ⟨_, rfl, S _ _ (rsF hc ⟨_, rfl, f1 ⟨rfl, hG⟩⟩)⟩⟩
end OPS13
