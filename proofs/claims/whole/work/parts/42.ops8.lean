/-! ===== the calls, side by side: behind, best, leastRoom, slide ===== -/
section OPS8
variable {d D : Nat} {V W X M X1 M1 : Mem} {P : Option AV → Mem → Prop} {w v m h T i j k r t u q m1 h1 : Nat} {n n1 : NF} {a b c x y z kk ss : Int32} {B B1 : Int}
theorem op_behind (hG : GR X M) : OP (d + 12) mX6_behind mX7_behind [aI a, aI b, aI c] X M := by
  obtain ⟨m, T, h, hN, hR⟩ := id hG
  obtain ⟨q1, q2, q3, q4, q5, q6, q7⟩ := id hN.1
  have hm := q1.2.1
  have hh := hN.2
  have hX : X 2 0 6 = nI m := q1.many
  have hM : M 25 0 1 = nI m := q1.1
  refine clX6_behind a b c X ?_
  unfold wpX6_behind_0
  have S : ∀ (a0 : Int32) (X1 : Mem), wpX7_behind_0 (Cl UM (d + 11)) a b c M (fun v2 M1 => v2 = some (aI a0) ∧ GR X1 M1) → Cl UM (d + 12) mX7_behind [aR 24 0, aI a, aI b, aI c] M (fun v2 M1 => v2 = some (aI a0) ∧ GR X1 M1) := fun a0 X1 q => clX7_behind a b c M q
  unfold wpX7_behind_0 at S
  by_cases hc : 0 ≤ a ∧ a ≤ nI m - 1
  · obtain ⟨j, hj, ea⟩ := isRoof_of hm hc
    refine xrT hX hc ⟨_, rfl, t1 ?_⟩
    by_cases hc2 : 0 ≤ b ∧ b ≤ 200
    · obtain ⟨k, hk, eb⟩ := in_nI (N := 200) (by omega) hc2
      refine xwT hc2 ⟨_, rfl, t1 ?_⟩
      by_cases hc3 : 0 ≤ c ∧ c ≤ 3
      · refine xwT hc3 ⟨_, rfl, t2 ?_⟩
        refine x_become (by omega) (by omega) (by omega) hN.1 (fun V1 hS1 hF1 => ⟨rfl, ?_⟩)
        refine x_passHours (k := k) (by omega) hS1 (by omega) (by omega) (by omega) eb (fun V2 hS2 hF2 => ⟨_, rfl, ?_⟩)
        have hT : TH X V2 := (TH.fb hF1).tr (TH.fr hF2)
        -- the reference
        have K : ∀ (i : Nat) (a0 : Int32) (V7 : Mem) (y : Int32), TM M V7 (M 25 0) → y = nI i → i < 1479 → a0 = (gHours (M 25 0) T h m k).1 i → cI (Cl UM (d + 11)) mX7_behindIt [aR 24 0, aI b, aI y] V7 (fun x V1 => (fun v2 M1 => v2 = some (aI a0) ∧ GR V2 M1) (some (aI x)) V1) := by
          intro i a0 V7 y hV ey hi e0
          exact r_behind hV (fun _ _ => rfl) q4 q1.1 hm q7 (by omega) eb ey hi (fun M1 h1 => ⟨_, rfl, by rw [e0], TH.gr hN hR hT h1⟩)
        have A : ∀ (k0 : Nat), k0 ≤ 1 → (59 : Int32) + 6 * a + 4 + nI k0 = nI (63 + 6 * j + k0) := fun k0 _ => by
          rw [ea, show (59 : Int32) = nI 59 from rfl, show (6 : Int32) = nI 6 from rfl, show (4 : Int32) = nI 4 from rfl, pk_mul, nI_add, nI_add, nI_add, show 59 + 6 * j + 4 + k0 = 63 + 6 * j + k0 by omega]
        refine ⟨fun c1 => ⟨j, ea, by omega, _, rfl, S _ _ ?_⟩, fun c1 => ⟨j, ea, by omega, _, rfl, S _ _ ?_⟩, fun c1 => ⟨_, rfl, S _ _ ?_⟩, fun c1 => ⟨_, rfl, S _ _ ?_⟩⟩
        · refine rrT hM hc ⟨_, rfl, t1 (rwT hc2 ⟨_, rfl, t1 (rwT hc3 ⟨_, rfl, t2 ?_⟩)⟩)⟩
          subst c1
          refine r_thinks (fun V7 hV => ⟨rfl, fun c => absurd c (by decide), fun _ => ?_⟩)
          refine clX7_waterAt a V7 ?_
          exact ⟨_, rfl, K (63 + 6 * j) _ V7 _ hV (A 0 (by omega)) (by omega) (by rw [hS2.1.rf hj (by omega), show 59 + 6 * j + 4 = 63 + 6 * j by omega])⟩
        · refine rrT hM hc ⟨_, rfl, t1 (rwT hc2 ⟨_, rfl, t1 (rwT hc3 ⟨_, rfl, t2 ?_⟩)⟩)⟩
          subst c1
          refine r_thinks (fun V7 hV => ⟨rfl, fun c => absurd c (by decide), fun _ => ?_⟩)
          refine clX7_waterAt a V7 ?_
          exact ⟨_, rfl, K (63 + 6 * j + 1) _ V7 _ hV (A 1 (by omega)) (by omega) (by rw [hS2.1.rf hj (by omega), show 59 + 6 * j + 5 = 63 + 6 * j + 1 by omega])⟩
        · refine rrT hM hc ⟨_, rfl, t1 (rwT hc2 ⟨_, rfl, t1 (rwT hc3 ⟨_, rfl, t2 ?_⟩)⟩)⟩
          subst c1
          refine r_thinks (fun V7 hV => ⟨rfl, fun _ => ⟨fun c => absurd rfl c, fun _ => ?_⟩, fun c => absurd (by decide) c⟩)
          exact K 5 _ V7 _ hV rfl (by omega) (hS2.1.sc 5 (by omega))
        · refine rrT hM hc ⟨_, rfl, t1 (rwT hc2 ⟨_, rfl, t1 (rwT hc3 ⟨_, rfl, t2 ?_⟩)⟩)⟩
          have c3 : c = 3 := by
            have hq := rng_of (l := 0) (u := 3) rfl rfl hc3
            rcases (show c.toInt = 0 ∨ c.toInt = 1 ∨ c.toInt = 2 ∨ c.toInt = 3 by omega) with e | e | e | e
            · exact absurd (ti_eq.mpr e) c1.1
            · exact absurd (ti_eq.mpr e) c1.2.1
            · exact absurd (ti_eq.mpr e) c1.2.2
            · exact ti_eq.mpr e
          clear c1
          subst c3
          refine r_thinks (fun V7 hV => ⟨rfl, fun _ => ⟨fun _ => ?_, fun c => absurd c (by decide)⟩, fun c => absurd (by decide) c⟩)
          exact K 7 _ V7 _ hV rfl (by omega) (hS2.1.sc 7 (by omega))
      · exact xwF hc3 ⟨_, rfl, f2 ⟨_, rfl, S _ _ (rrT hM hc ⟨_, rfl, t1 (rwT hc2 ⟨_, rfl, t1 (rwF hc3 ⟨_, rfl, f2 ⟨rfl, hG⟩⟩)⟩)⟩)⟩⟩
    · exact xwF hc2 ⟨_, rfl, f1 ⟨_, rfl, S _ _ (rrT hM hc ⟨_, rfl, t1 (rwF hc2 ⟨_, rfl, f1 ⟨rfl, hG⟩⟩)⟩)⟩⟩
  · exact xrF hX hc ⟨_, rfl, f1 ⟨_, rfl, S _ _ (rrF hM hc ⟨_, rfl, f1 ⟨rfl, hG⟩⟩)⟩⟩
/-- what a heat yields -/
def gYld (n : NF) (T h m j k : Nat) (y : Int32) : Int32 := (gHours (upd n (61 + 6 * j) y) T h m k).1 (63 + 6 * j) - nI k * y
theorem WS.fr2 (hS : WS X w n m T h B) (hRW : RW X1 w n1 m) (hF : FR w X X1) (hI : WI n1 m B) (ho : ∀ j, j = 2 ∨ (10 ≤ j ∧ j < 59) ∨ 107 ≤ j → n1 j = n j) : WS X1 w n1 m T h B :=
  hS.mod hRW hI (hS.2.2.1.eq (fun j q1 q2 => ho j (by omega))) (ho 10 (by omega)) (fun j hj => ho j (by omega)) ((ho 2 (by omega)).trans hS.2.2.2.2.2.2) (fr_L hF)
theorem x_yield (hS : WS X 0 n m T h B) (hB : B ≤ 500000000) (hl : h < 2 ^ 29) (hj : j < m) (ea : a = nI j) (hk : k ≤ 1000) (eb : b = nI k) (hy : 0 ≤ y.toInt ∧ y.toInt ≤ 9) (hp : ∀ X1, TH X X1 → P (some (aI (gYld n T h m j k y))) X1) : Cl UX (d + 8) mX6_yieldOfHeat [aR 0 0, aI a, aI b, aI y] X P := by
  have hm := hS.1.2.1
  refine clX6_yieldOfHeat a b y X ?_
  unfold wpX6_yieldOfHeat_0
  refine x_become (by omega) (by omega) (by omega) hS (fun V1 hS1 hF1 => ⟨rfl, j, ea, by omega, fun V3 e3 => ?_⟩)
  have hRW : RW V3 2 (upd n (61 + 6 * j) y) m := by
    have := hS1.1.roof hj (j := 2) (by omega) y
    rw [show 59 + 6 * j + 2 = 61 + 6 * j by omega, ← e3] at this
    exact this
  have hF3 : FR 2 V1 V3 := by rw [e3]; exact FR.rf.mu3 (by omega)
  have hS3 : WS V3 2 (upd n (61 + 6 * j) y) m T h B := hS1.fr2 hRW hF3 (hS1.2.1.heat hj hy.1 hy.2) (fun i hi => up_n (by omega))
  refine x_passHours (k := k) (by omega) hS3 hB hl hk eb (fun V4 hS4 hF4 => ⟨_, rfl, ?_⟩)
  have := hp V4 (((TH.fb hF1).tr (TH.fr hF3)).tr (TH.fr hF4))
  unfold gYld at this
  dsimp only
  rw [hS4.1.rf hj (by omega), eb, show 59 + 6 * j + 4 = 63 + 6 * j by omega]
  exact this
/-- the best heat and what it yields, of those below k -/
def gBst (f : Nat → Int32) : Nat → Int32 × Int32
  | 0 => (0, f 0)
  | k + 1 => if f (k + 1) ≤ (gBst f k).2 then gBst f k else (nI (k + 1), f (k + 1))
theorem gBst_1 {f : Nat → Int32} : ∀ k, ∃ i, i ≤ k ∧ (gBst f k).1 = nI i
  | 0 => ⟨0, by omega, rfl⟩
  | k + 1 => by
    obtain ⟨i, h1, h2⟩ := gBst_1 (f := f) k
    rw [gBst]
    split
    · exact ⟨i, by omega, h2⟩
    · exact ⟨k + 1, by omega, rfl⟩
theorem op_best (hG : GR X M) : OP (d + 12) mX6_best mX7_best [aI a, aI b, aI c] X M := by
  obtain ⟨m, T, h, hN, hR⟩ := id hG
  obtain ⟨q1, q2, q3, q4, q5, q6, q7⟩ := id hN.1
  have hm := q1.2.1
  have hh := hN.2
  have hX : X 2 0 6 = nI m := q1.many
  have hM : M 25 0 1 = nI m := q1.1
  have S : ∀ (a0 : Int32) (X1 : Mem), wpX7_best_0 (Cl UM (d + 11)) (fun _ _ _ _ _ _ _ => False) a b c M (fun v2 M1 => v2 = some (aI a0) ∧ GR X1 M1) → Cl UM (d + 12) mX7_best [aR 24 0, aI a, aI b, aI c] M (fun v2 M1 => v2 = some (aI a0) ∧ GR X1 M1) := fun a0 X1 q => clX7_best (I43 := fun _ _ _ _ _ _ _ => False) a b c M (fun _ _ _ _ _ _ _ q => q.elim) q
  have S0 : wpX6_best_0 (Cl UX (d + 11)) (fun _ _ _ _ _ _ _ => False) a b c X (fun v X1 => ∃ a0, v = some (aI a0) ∧ Cl UM (d + 12) mX7_best [aR 24 0, aI a, aI b, aI c] M (fun v2 M1 => v2 = some (aI a0) ∧ GR X1 M1)) → OP (d + 12) mX6_best mX7_best [aI a, aI b, aI c] X M := fun q => clX6_best (I45 := fun _ _ _ _ _ _ _ => False) a b c X (fun _ _ _ _ _ _ _ q => q.elim) q
  unfold wpX7_best_0 at S
  unfold wpX6_best_0 at S0
  by_cases hc : 0 ≤ a ∧ a ≤ nI m - 1
  · obtain ⟨j, hj, ea⟩ := isRoof_of hm hc
    by_cases hc2 : 1 ≤ b ∧ b ≤ 72
    · by_cases hc3 : 0 ≤ c ∧ c ≤ 1
      · clear S S0
        obtain ⟨k, hk, eb⟩ := in_nI (N := 72) (by omega) ⟨by have := ti_le.mp hc2.1; rw [show (1 : Int32).toInt = 1 from rfl] at this; rw [ti_le, ti0]; omega, hc2.2⟩
        let f : Nat → Int32 := fun i => gYld (M 25 0) T h m j k (nI i)
        -- the reference
        have R : ∀ (a0 : Int32) (X1 : Mem), TH X X1 → (c = 0 → a0 = (gBst f 9).1) → (¬ c = 0 → a0 = (gBst f 9).2) → Cl UM (d + 12) mX7_best [aR 24 0, aI a, aI b, aI c] M (fun v2 M1 => v2 = some (aI a0) ∧ GR X1 M1) := by
          intro a0 X1 hX1 g0 g1
          have Y : ∀ (i : Nat) (V7 : Mem) (Q : Int32 → Mem → Prop), i ≤ 9 → TM M V7 (M 25 0) → (∀ M1, TM M M1 (M 25 0) → Q ((gHours (upd (M 25 0) (61 + 6 * j) (nI i)) T h m k).1 (63 + 6 * j)) M1) → cV (Cl UM (d + 11)) mX7_put [aR 24 0, aI a, aI 2, aI (nI i)] V7 (fun V_2 => (cI (Cl UM (d + 11)) mX7_waterAt [aI a] V_2 (fun x_4 V_3 => (cI (Cl UM (d + 11)) mX7_behindIt [aR 24 0, aI b, aI x_4] V_3 Q)))) := by
            intro i V7 Q hi hV hQ
            refine r_put (k := 2) ea rfl (by omega) ⟨rfl, ?_⟩
            refine clX7_waterAt a _ ?_
            refine ⟨_, rfl, ?_⟩
            have hV2 : TM M (ma V7 25 0 (upd (V7 25 0) (59 + 6 * j + 2) (nI i))) (upd (M 25 0) (61 + 6 * j) (nI i)) := by
              rw [hV.1, show 59 + 6 * j + 2 = 61 + 6 * j by omega]
              exact hV.put
            refine r_behind (j := 63 + 6 * j) hV2 (fun i hi => up_n (by omega)) (q4.cong (up_n (by omega)) (fun i hi => up_n (by omega))) ((up_n (by omega)).trans q1.1) hm ((up_n (by omega)).trans q7) (by omega) eb ?_ (by omega) (fun M1 h1 => ⟨_, rfl, hQ M1 h1⟩)
            rw [ea, show (59 : Int32) = nI 59 from rfl, show (6 : Int32) = nI 6 from rfl, show (4 : Int32) = nI 4 from rfl, pk_mul, nI_add, nI_add, show 59 + 6 * j + 4 = 63 + 6 * j by omega]
          have L : ∀ q i, i + q = 9 → ∀ V7, TM M V7 (M 25 0) → Gq (Kp (d + 12) mX7_best UM (fun v2 M1 => v2 = some (aI a0) ∧ GR X1 M1)) UM cX7_best 8 RX7 43 [(0, aR 24 0), (1, aI a), (2, aI b), (3, aI c), (4, aI (gBst f i).1), (5, aI (gBst f i).2), (6, aI (nI (i + 1)))] [] V7 := by
            intro q
            induction q with
            | zero =>
              intro i hi V7 hV
              have hi : i = 9 := by omega
              subst hi
              refine okX7_best_43 (I43 := fun _ _ _ _ _ _ _ => False) a b c _ _ _ V7 (fun _ _ _ _ _ _ _ q => q.elim) ?_
              unfold wpX7_best_43
              exact ⟨fun _ => ⟨fun c1 => ⟨by rw [g1 c1], TH.gr hN hR hX1 hV⟩, fun c1 => ⟨by rw [g0 c1], TH.gr hN hR hX1 hV⟩⟩, fun c => absurd (by decide) c⟩
            | succ q ih =>
              intro i hi V7 hV
              refine okX7_best_43 (I43 := fun x1 x2 x3 x4 x5 x6 W => x1 = a ∧ x2 = b ∧ x3 = c ∧ x4 = (gBst f (i + 1)).1 ∧ x5 = (gBst f (i + 1)).2 ∧ x6 = nI (i + 1 + 1) ∧ TM M W (M 25 0)) a b c _ _ _ V7 (fun x1 x2 x3 x4 x5 x6 W z => ?_) ?_
              · obtain ⟨rfl, rfl, rfl, rfl, rfl, rfl, z1⟩ := z
                exact ih (i + 1) (by omega) W z1
              · unfold wpX7_best_43 wpX7_best_86 wpX7_best_93
                refine ⟨fun c1 => absurd c1 (nI_ge (b := 10) (by omega) (by omega)), fun _ => ?_⟩
                refine Y (i + 1) V7 _ (by omega) hV (fun M1 h1 z7 e7 => ?_)
                have e7 : z7 = f (i + 1) := by rw [e7, eb]; rfl
                obtain ⟨i0, k1, k2⟩ := gBst_1 (f := f) i
                refine ⟨fun c1 => ?_, fun _ => ⟨fun c1 => ⟨fun _ => ⟨rfl, rfl, rfl, ?_, ?_, nI_1 (i + 1), h1⟩, fun c2 => ?_⟩, fun c1 => ⟨fun c2 => absurd rfl c2, fun _ => ⟨rfl, rfl, rfl, ?_, ?_, nI_1 (i + 1), h1⟩⟩⟩⟩
                · exact absurd ((nI_eq (b := 0) (by omega) (by omega)).mp c1) (by omega)
                · rw [e7] at c1; rw [gBst, if_pos c1]
                · rw [e7] at c1; rw [gBst, if_pos c1]
                · rw [k2] at c2; exact absurd ((nI_eq (by omega) (by omega)).mp c2) (by omega)
                · rw [e7] at c1; rw [gBst, if_neg c1]
                · rw [e7] at c1; rw [gBst, if_neg c1]; exact e7
          have L0 : ∀ V7, TM M V7 (M 25 0) → Gq (Kp (d + 12) mX7_best UM (fun v2 M1 => v2 = some (aI a0) ∧ GR X1 M1)) UM cX7_best 8 RX7 43 [(0, aR 24 0), (1, aI a), (2, aI b), (3, aI c), (4, aI 0), (5, aI 0), (6, aI 0)] [] V7 := by
            intro V7 hV
            refine okX7_best_43 (I43 := fun x1 x2 x3 x4 x5 x6 W => x1 = a ∧ x2 = b ∧ x3 = c ∧ x4 = (gBst f 0).1 ∧ x5 = (gBst f 0).2 ∧ x6 = nI (0 + 1) ∧ TM M W (M 25 0)) a b c _ _ _ V7 (fun x1 x2 x3 x4 x5 x6 W z => ?_) ?_
            · obtain ⟨rfl, rfl, rfl, rfl, rfl, rfl, z1⟩ := z
              exact L 9 0 (by omega) W z1
            · unfold wpX7_best_43 wpX7_best_86 wpX7_best_93
              refine ⟨fun c1 => absurd c1 (by decide), fun _ => ?_⟩
              refine Y 0 V7 _ (by omega) hV (fun M1 h1 z7 e7 => ?_)
              have e7 : z7 = f 0 := by rw [e7, eb]; rfl
              refine ⟨fun _ => ⟨fun c2 => absurd rfl c2, fun _ => ⟨rfl, rfl, rfl, rfl, e7, rfl, h1⟩⟩, fun c1 => absurd rfl c1⟩
          refine clX7_best (I43 := fun x1 x2 x3 x4 x5 x6 W => x1 = a ∧ x2 = b ∧ x3 = c ∧ x4 = 0 ∧ x5 = 0 ∧ x6 = 0 ∧ TM M W (M 25 0)) a b c M (fun x1 x2 x3 x4 x5 x6 W z => ?_) ?_
          · obtain ⟨rfl, rfl, rfl, rfl, rfl, rfl, z1⟩ := z
            exact L0 W z1
          · unfold wpX7_best_0
            refine rrT hM hc ⟨_, rfl, t1 (rwT hc2 ⟨_, rfl, t1 (rwT hc3 ⟨_, rfl, t2 ?_⟩)⟩)⟩
            exact r_thinks (fun V7 hV => ⟨rfl, rfl, rfl, rfl, rfl, rfl, rfl, hV⟩)
        have Z : ∀ (i : Nat) (V1 : Mem) (Q : Int32 → Mem → Prop), i ≤ 9 → TH X V1 → (∀ V2, TH X V2 → Q (f i) V2) → cI (Cl UX (d + 11)) mX6_yieldOfHeat [aR 0 0, aI a, aI b, aI (nI i)] V1 Q := by
          intro i V1 Q hi hV hQ
          refine x_yield (T := T) (h := h) (m := m) (j := j) (k := k) (n := M 25 0) (B := 738 * (h : Int)) (TH.ws hN.1 hV) (by omega) (by omega) hj ea (by omega) eb (by rw [nI_toInt (by omega)]; omega) (fun X1 h1 => ⟨_, rfl, hQ X1 (hV.tr h1)⟩)
        have L : ∀ q i, i + q = 9 → ∀ V1, TH X V1 → Gq (Kp (d + 12) mX6_best UX (fun v X1 => ∃ a0, v = some (aI a0) ∧ Cl UM (d + 12) mX7_best [aR 24 0, aI a, aI b, aI c] M (fun v2 M1 => v2 = some (aI a0) ∧ GR X1 M1))) UX cX6_best 8 RX6 45 [(0, aR 0 0), (1, aI a), (2, aI b), (3, aI c), (4, aI (gBst f i).1), (5, aI (gBst f i).2), (6, aI (nI (i + 1)))] [] V1 := by
          intro q
          induction q with
          | zero =>
            intro i hi V1 hV
            have hi : i = 9 := by omega
            subst hi
            refine okX6_best_45 (I45 := fun _ _ _ _ _ _ _ => False) a b c _ _ _ V1 (fun _ _ _ _ _ _ _ q => q.elim) ?_
            unfold wpX6_best_45
            exact ⟨fun _ => ⟨fun c1 => ⟨_, rfl, R _ V1 hV (fun c2 => absurd c2 c1) (fun _ => rfl)⟩, fun c1 => ⟨_, rfl, R _ V1 hV (fun _ => rfl) (fun c2 => absurd c1 c2)⟩⟩, fun c => absurd (by decide) c⟩
          | succ q ih =>
            intro i hi V1 hV
            refine okX6_best_45 (I45 := fun x1 x2 x3 x4 x5 x6 W => x1 = a ∧ x2 = b ∧ x3 = c ∧ x4 = (gBst f (i + 1)).1 ∧ x5 = (gBst f (i + 1)).2 ∧ x6 = nI (i + 1 + 1) ∧ TH X W) a b c _ _ _ V1 (fun x1 x2 x3 x4 x5 x6 W z => ?_) ?_
            · obtain ⟨rfl, rfl, rfl, rfl, rfl, rfl, z1⟩ := z
              exact ih (i + 1) (by omega) W z1
            · unfold wpX6_best_45
              refine ⟨fun c1 => absurd c1 (nI_nlt (a := 9) (by omega) (by omega)), fun _ => ?_⟩
              refine Z (i + 1) V1 _ (by omega) hV (fun V2 h2 => ⟨fun c1 => ⟨rfl, rfl, rfl, ?_, ?_, nI_1 (i + 1), h2⟩, fun c1 => ⟨rfl, rfl, rfl, ?_, ?_, nI_1 (i + 1), h2⟩⟩)
              · rw [gBst, if_pos c1]
              · rw [gBst, if_pos c1]
              · rw [gBst, if_neg c1]
              · rw [gBst, if_neg c1]
        refine clX6_best (I45 := fun x1 x2 x3 x4 x5 x6 W => x1 = a ∧ x2 = b ∧ x3 = c ∧ x4 = (gBst f 0).1 ∧ x5 = (gBst f 0).2 ∧ x6 = nI (0 + 1) ∧ TH X W) a b c X (fun x1 x2 x3 x4 x5 x6 W z => ?_) ?_
        · obtain ⟨rfl, rfl, rfl, rfl, rfl, rfl, z1⟩ := z
          exact L 9 0 (by omega) W z1
        · unfold wpX6_best_0
          refine xrT hX hc ⟨_, rfl, t1 (xwT hc2 ⟨_, rfl, t1 (xwT hc3 ⟨_, rfl, t2 ?_⟩)⟩)⟩
          exact Z 0 X _ (by omega) TH.rf (fun V2 h2 => ⟨rfl, rfl, rfl, rfl, rfl, rfl, h2⟩)
      · exact S0 (xrT hX hc ⟨_, rfl, t1 (xwT hc2 ⟨_, rfl, t1 (xwF hc3 ⟨_, rfl, f2 ⟨_, rfl, S _ _ (rrT hM hc ⟨_, rfl, t1 (rwT hc2 ⟨_, rfl, t1 (rwF hc3 ⟨_, rfl, f2 ⟨rfl, hG⟩⟩)⟩)⟩)⟩⟩)⟩)⟩)
    · exact S0 (xrT hX hc ⟨_, rfl, t1 (xwF hc2 ⟨_, rfl, f1 ⟨_, rfl, S _ _ (rrT hM hc ⟨_, rfl, t1 (rwF hc2 ⟨_, rfl, f1 ⟨rfl, hG⟩⟩)⟩)⟩⟩)⟩)
  · exact S0 (xrF hX hc ⟨_, rfl, f1 ⟨_, rfl, S _ _ (rrF hM hc ⟨_, rfl, f1 ⟨rfl, hG⟩⟩)⟩⟩)
end OPS8
