/-! ===== the calls, side by side: slide, gains ===== -/
def gRho (n : NF) (T h m i : Nat) : Int32 := (gHour (gHours n T h m i).1 T (h + i) m).2
def gWn (f : Nat → Int32) : Nat → Option Nat × Int32
  | 0 => (none, 0)
  | i + 1 => match (gWn f i).1 with
    | none => (some i, f i)
    | some _ => if f i ≤ (gWn f i).2 then gWn f i else (some i, f i)
def cwn (o : Option Nat) : Int32 := match o with
  | none => -1000000005
  | some i => nI i
def rwn (o : Option Nat) : Int32 := match o with
  | none => -1
  | some i => nI i
section OPS10
variable {d D : Nat} {V W X M X1 M1 : Mem} {P : Option AV → Mem → Prop} {w v m h T i j k r t u q m1 h1 : Nat} {n n1 : NF} {a b c x y z kk ss : Int32} {B B1 : Int}
theorem gSlideL_2 : ∀ k, ∃ i, i ≤ k ∧ (gSlideL n m k).2 = nI i
  | 0 => ⟨0, by omega, rfl⟩
  | k + 1 => by
    obtain ⟨i, h1, h2⟩ := gSlideL_2 k
    rw [gSlideL]
    unfold gSlide1
    split
    · exact ⟨i + 1, by omega, by rw [h2, nI_1]⟩
    · exact ⟨i, by omega, h2⟩
theorem gRho_of (hm : m ≤ 8) : ∃ i, i ≤ 8 ∧ gRho n T h m k = nI i := by
  unfold gRho gHour gH2
  obtain ⟨i, h1, h2⟩ := gSlideL_2 (n := gH1 (gHours n T h m k).1 (h + k) m) (m := m) m
  exact ⟨i, by omega, h2⟩
theorem gRho_le (hm : m ≤ 8) : gRho n T h m k ≤ 0 ↔ gRho n T h m k = 0 := by
  obtain ⟨i, h1, h2⟩ := gRho_of (n := n) (T := T) (h := h) (k := k) hm
  rw [h2]
  constructor
  · intro q
    have := (nI_leI (b := 0) (by omega) (by omega)).mp q
    rw [show i = 0 by omega]; rfl
  · intro q
    rw [q]; decide
theorem op_slide (hG : GR X M) : OP (d + 12) mX6_slide mX7_slide [] X M := by
  obtain ⟨m, T, h, hN, hR⟩ := id hG
  obtain ⟨q1, q2, q3, q4, q5, q6, q7⟩ := id hN.1
  have hm := q1.2.1
  have hh := hN.2
  -- the reference
  have R : ∀ (k : Nat) (a0 : Int32) (X1 : Mem), TH X X1 → k ≤ 200 → (∀ i, i < k → gRho (M 25 0) T h m i = 0) → (k = 200 ∧ a0 = -1000000005 ∨ k < 200 ∧ ¬ gRho (M 25 0) T h m k = 0 ∧ a0 = nI (k + 1)) → Cl UM (d + 12) mX7_slide [aR 24 0] M (fun v2 M1 => v2 = some (aI a0) ∧ GR X1 M1) := by
    intro k a0 X1 hX1 hk h0 hend
    have hbk : ∀ (i : Nat) (V7 : Mem), TM M V7 (gHours (M 25 0) T h m i).1 → ∀ i, 107 ≤ i → True := fun _ _ _ _ _ => trivial
    have L : ∀ q i, i + q = k → ∀ V7, TM M V7 (gHours (M 25 0) T h m i).1 → Gq (Kp (d + 12) mX7_slide UM (fun v2 M1 => v2 = some (aI a0) ∧ GR X1 M1)) UM cX7_slide 2 RX7 6 [(0, aR 24 0), (1, aI (nI (i + 1)))] [] V7 := by
      intro q
      induction q with
      | zero =>
        intro i hi V7 hV
        have hi : i = k := by omega
        subst hi
        refine okX7_slide_6 (I6 := fun _ _ => False) _ V7 (fun _ _ q => q.elim) ?_
        unfold wpX7_slide_6 wpX7_slide_26
        rcases hend with ⟨e1, e2⟩ | ⟨e1, e2, e3⟩
        · subst e1
          refine ⟨fun _ => ?_, fun c => absurd (by decide) c⟩
          exact r_puts hV (fun i hi => gHours_o (not_hot (by omega) (by omega)) _) (fun M1 h1 => ⟨rfl, fun _ => ⟨by rw [e2], TH.gr hN hR hX1 h1⟩, fun c => absurd (by decide) c⟩)
        · refine ⟨fun c => absurd c (nI_nlt (a := 200) (by omega) (by omega)), fun _ => ?_⟩
          have h25 := hV.1
          refine r_hour (T := T) (h := h + i) (m := m) (by rw [h25]; exact gHours_law q4 hm) (by rw [h25, gHours_o (not_hot (by omega) (by omega))]; exact q1.1) hm (by rw [h25]; exact gHours_2 q7 i) (by omega) (fun f s => ⟨_, rfl, ?_⟩)
          rw [h25]
          refine ⟨fun _ => ?_, fun c => absurd c e2⟩
          exact r_puts (n := (gHours (M 25 0) T h m (i + 1)).1) hV.m3 (fun i hi => gHours_o (not_hot (by omega) (by omega)) _) (fun M1 h1 => ⟨rfl, fun c => absurd c (nI_nlt (a := 200) (by omega) (by omega)), fun _ => ⟨by rw [e3], TH.gr hN hR hX1 h1⟩⟩)
      | succ q ih =>
        intro i hi V7 hV
        refine okX7_slide_6 (I6 := fun x1 W => x1 = nI (i + 1 + 1) ∧ TM M W (gHours (M 25 0) T h m (i + 1)).1) _ V7 (fun x1 W z => ?_) ?_
        · obtain ⟨rfl, z1⟩ := z
          exact ih (i + 1) (by omega) W z1
        · unfold wpX7_slide_6
          refine ⟨fun c => absurd c (nI_nlt (a := 200) (by omega) (by omega)), fun _ => ?_⟩
          have h25 := hV.1
          refine r_hour (T := T) (h := h + i) (m := m) (by rw [h25]; exact gHours_law q4 hm) (by rw [h25, gHours_o (not_hot (by omega) (by omega))]; exact q1.1) hm (by rw [h25]; exact gHours_2 q7 i) (by omega) (fun f s => ⟨_, rfl, ?_⟩)
          rw [h25]
          exact ⟨fun c => absurd (h0 i (by omega)) c, fun _ => ⟨nI_1 (i + 1), hV.m3⟩⟩
    refine clX7_slide (I6 := fun x1 W => x1 = nI (0 + 1) ∧ TM M W (gHours (M 25 0) T h m 0).1) M (fun x1 W z => ?_) ?_
    · obtain ⟨rfl, z1⟩ := z
      exact L k 0 (by omega) W z1
    · unfold wpX7_slide_0
      exact r_thinks (fun V7 hV => ⟨rfl, rfl, hV⟩)
  have L : ∀ q i, i + q = 200 → ∀ V1, TH X V1 → WS V1 2 (gHours (M 25 0) T h m i).1 m T (h + i) (738 * (h : Int) + 738 * i) → (∀ i0, i0 < i → gRho (M 25 0) T h m i0 = 0) → Gq (Kp (d + 12) mX6_slide UX (fun v X1 => ∃ a0, v = some (aI a0) ∧ Cl UM (d + 12) mX7_slide [aR 24 0] M (fun v2 M1 => v2 = some (aI a0) ∧ GR X1 M1))) UX cX6_slide 2 RX6 13 [(0, aR 0 0), (1, aI (nI (i + 1)))] [] V1 := by
    intro q
    induction q with
    | zero =>
      intro i hi V1 hV hS h0
      have hi : i = 200 := by omega
      subst hi
      refine okX6_slide_13 (I13 := fun _ _ => False) _ V1 (fun _ _ q => q.elim) ?_
      unfold wpX6_slide_13
      exact ⟨fun _ => ⟨_, rfl, R 200 _ V1 hV (by omega) h0 (Or.inl ⟨rfl, rfl⟩)⟩, fun c => absurd (by decide) c⟩
    | succ q ih =>
      intro i hi V1 hV hS h0
      refine okX6_slide_13 (I13 := fun x1 W => x1 = nI (i + 1 + 1) ∧ TH X W ∧ WS W 2 (gHours (M 25 0) T h m (i + 1)).1 m T (h + (i + 1)) (738 * (h : Int) + 738 * ((i + 1 : Nat) : Int)) ∧ gRho (M 25 0) T h m i = 0) _ V1 (fun x1 W z => ?_) ?_
      · obtain ⟨rfl, z1, z2, z3⟩ := z
        refine ih (i + 1) (by omega) W z1 z2 (fun i0 hi0 => ?_)
        by_cases e : i0 = i
        · rw [e]; exact z3
        · exact h0 i0 (by omega)
      · unfold wpX6_slide_13
        refine ⟨fun c => absurd c (nI_nlt (a := 200) (by omega) (by omega)), fun _ => ?_⟩
        refine x_passHour (by omega) hS (by omega) (by omega) (fun V2 hS2 hF2 => ⟨_, rfl, fun c => ⟨nI_1 (i + 1), hV.tr (TH.fr hF2), ?_, (gRho_le hm).mp c⟩, fun c => ⟨_, rfl, R i _ V2 (hV.tr (TH.fr hF2)) (by omega) h0 (Or.inr ⟨by omega, fun e => c ((gRho_le hm).mpr e), rfl⟩)⟩⟩)
        rw [show 738 * (h : Int) + 738 * ((i + 1 : Nat) : Int) = 738 * (h : Int) + 738 * i + 738 by omega]
        exact hS2
  refine clX6_slide (I13 := fun x1 W => x1 = nI (0 + 1) ∧ TH X W ∧ WS W 2 (gHours (M 25 0) T h m 0).1 m T (h + 0) (738 * (h : Int) + 738 * ((0 : Nat) : Int))) X (fun x1 W z => ?_) ?_
  · obtain ⟨rfl, z1, z2⟩ := z
    exact L 200 0 (by omega) W z1 z2 (fun i hi => absurd hi (by omega))
  · unfold wpX6_slide_0
    refine x_become (by omega) (by omega) (by omega) hN.1 (fun V1 hS1 hF1 => ⟨rfl, rfl, TH.fb hF1, ?_⟩)
    rw [show 738 * (h : Int) + 738 * ((0 : Nat) : Int) = 738 * (h : Int) by omega]
    exact hS1
theorem gWn_s {f : Nat → Int32} : ∀ i, ∃ u, u ≤ i ∧ (gWn f (i + 1)).1 = some u
  | 0 => ⟨0, by omega, rfl⟩
  | i + 1 => by
    obtain ⟨u, h1, h2⟩ := gWn_s (f := f) i
    rw [gWn, h2]
    dsimp only
    split
    · exact ⟨u, by omega, h2⟩
    · exact ⟨i + 1, by omega, rfl⟩
theorem x_waters (hS : WS X 0 n m T h B) (hB : B ≤ 500000000) (hl : h < 2 ^ 29) (hk : k ≤ 1000) (eb : b = nI k) (hp : ∀ X1, TH X X1 → (∀ i, i < m → X1 22 0 i = (gHours n T h m k).1 (63 + 6 * i)) → P none X1) : Cl UX (d + 8) mX6_thinkOfWaters [aR 0 0, aI b] X P := by
  have hm := hS.1.2.1
  have L : ∀ V2, TH X V2 → RW V2 2 (gHours n T h m k).1 m → ∀ q i, i + q = m → ∀ V3, (∀ r i, ¬ (r = 22 ∧ i = 0) → V3 r i = V2 r i) → (∀ j, j < i → V3 22 0 j = (gHours n T h m k).1 (63 + 6 * j)) → Gq (Kp (d + 8) mX6_thinkOfWaters UX P) UX cX6_thinkOfWaters 3 RX6 22 [(0, aR 0 0), (1, aI b), (2, aI (nI i))] [] V3 := by
    intro V2 hT hV q
    induction q with
    | zero =>
      intro i hi V3 hF h22
      have hi : i = m := by omega
      subst hi
      refine okX6_thinkOfWaters_22 (I22 := fun _ _ _ => False) b _ V3 (fun _ _ _ q => q.elim) ?_
      unfold wpX6_thinkOfWaters_22
      rw [hF 2 2 (by omega), hV.many]
      exact ⟨fun _ => hp V3 (hT.tr (fun r i q => hF r i (fun z => q (Or.inr (Or.inr z.1))))) h22, fun c => absurd (nI_le (Nat.le_refl i) (by omega)) c⟩
    | succ q ih =>
      intro i hi V3 hF h22
      refine okX6_thinkOfWaters_22 (I22 := fun x1 x2 W => x1 = b ∧ x2 = nI (i + 1) ∧ (∀ r i, ¬ (r = 22 ∧ i = 0) → W r i = V2 r i) ∧ (∀ j, j < i + 1 → W 22 0 j = (gHours n T h m k).1 (63 + 6 * j))) b _ V3 (fun x1 x2 W z => ?_) ?_
      · obtain ⟨rfl, rfl, z1, z2⟩ := z
        exact ih (i + 1) (by omega) W z1 z2
      · unfold wpX6_thinkOfWaters_22
        rw [hF 2 2 (by omega), hV.many]
        refine ⟨fun c => absurd c (nI_ge (by omega) (by omega)), fun _ => ⟨i, rfl, by omega, fun V4 e4 => ⟨rfl, nI_1 i, fun r i q => ?_, fun j hj => ?_⟩⟩⟩
        · rw [e4, mu_eq, ma_ne q, hF r i q]
        · by_cases e : j = i
          · subst e
            rw [e4, mu_sk, hF 3 _ (by omega), hV.rf (by omega) (by omega), show 59 + 6 * j + 4 = 63 + 6 * j by omega]
          · rw [e4, mu_sn e]
            exact h22 j (by omega)
  refine clX6_thinkOfWaters (I22 := fun x1 x2 W => x1 = b ∧ x2 = nI 0 ∧ TH X W ∧ RW W 2 (gHours n T h m k).1 m) b X (fun x1 x2 W z => ?_) ?_
  · obtain ⟨rfl, rfl, z1, z2⟩ := z
    exact L W z1 z2 m 0 (by omega) W (fun _ _ _ => rfl) (fun j hj => absurd hj (by omega))
  · unfold wpX6_thinkOfWaters_0
    refine x_become (by omega) (by omega) (by omega) hS (fun V1 hS1 hF1 => ⟨rfl, ?_⟩)
    exact x_passHours (k := k) (by omega) hS1 hB hl hk eb (fun V2 hS2 hF2 => ⟨_, rfl, rfl, rfl, (TH.fb hF1).tr (TH.fr hF2), hS2.1⟩)
theorem op_gains (hG : GR X M) : OP (d + 12) mX6_gains mX7_gains [aI a, aI b] X M := by
  obtain ⟨m, T, h, hN, hR⟩ := id hG
  obtain ⟨q1, q2, q3, q4, q5, q6, q7⟩ := id hN.1
  have hm := q1.2.1
  have hh := hN.2
  have S : ∀ (a0 : Int32) (X1 : Mem), wpX7_gains_0 (Cl UM (d + 11)) (fun _ _ _ _ _ _ => False) a b M (fun v2 M1 => v2 = some (aI a0) ∧ GR X1 M1) → Cl UM (d + 12) mX7_gains [aR 24 0, aI a, aI b] M (fun v2 M1 => v2 = some (aI a0) ∧ GR X1 M1) := fun a0 X1 q => clX7_gains (I35 := fun _ _ _ _ _ _ => False) a b M (fun _ _ _ _ _ _ q => q.elim) q
  have S0 : wpX6_gains_0 (Cl UX (d + 11)) (fun _ _ _ _ _ _ => False) a b X (fun v X1 => ∃ a0, v = some (aI a0) ∧ Cl UM (d + 12) mX7_gains [aR 24 0, aI a, aI b] M (fun v2 M1 => v2 = some (aI a0) ∧ GR X1 M1)) → OP (d + 12) mX6_gains mX7_gains [aI a, aI b] X M := fun q => clX6_gains (I65 := fun _ _ _ _ _ _ => False) a b X (fun _ _ _ _ _ _ q => q.elim) q
  unfold wpX7_gains_0 at S
  unfold wpX6_gains_0 at S0
  by_cases hc : 0 ≤ a ∧ a ≤ 24
  · by_cases hc2 : 1 ≤ b ∧ b ≤ 72
    · clear S S0
      obtain ⟨k, hk, eb⟩ := in_nI (N := 72) (by omega) ⟨by have := ti_le.mp hc2.1; rw [show (1 : Int32).toInt = 1 from rfl] at this; rw [ti_le, ti0]; omega, hc2.2⟩
      let f : Nat → Int32 := fun i => (gHours (upd (M 25 0) 3 a) T h m k).1 (63 + 6 * i) - (gHours (M 25 0) T h m k).1 (63 + 6 * i)
      have wat : ∀ i : Nat, (59 : Int32) + 6 * nI i + 4 = nI (63 + 6 * i) := fun i => by
        rw [show (59 : Int32) = nI 59 from rfl, show (6 : Int32) = nI 6 from rfl, show (4 : Int32) = nI 4 from rfl, pk_mul, nI_add, nI_add, show 59 + 6 * i + 4 = 63 + 6 * i by omega]
      -- the reference
      have R : ∀ X1, TH X X1 → Cl UM (d + 12) mX7_gains [aR 24 0, aI a, aI b] M (fun v2 M1 => v2 = some (aI (cwn (gWn f m).1)) ∧ GR X1 M1) := by
        intro X1 hX1
        have L : ∀ q i, i + q = m → ∀ V7, TM M V7 (M 25 0) → Gq (Kp (d + 12) mX7_gains UM (fun v2 M1 => v2 = some (aI (cwn (gWn f m).1)) ∧ GR X1 M1)) UM cX7_gains 8 RX7 35 [(0, aR 24 0), (1, aI a), (2, aI b), (3, aI (rwn (gWn f i).1)), (4, aI (gWn f i).2), (5, aI (nI i))] [] V7 := by
          intro q
          induction q with
          | zero =>
            intro i hi V7 hV
            have hi : i = m := by omega
            subst hi
            refine okX7_gains_35 (I35 := fun _ _ _ _ _ _ => False) a b _ _ _ V7 (fun _ _ _ _ _ _ q => q.elim) ?_
            unfold wpX7_gains_35
            rw [hV.1, q1.1]
            refine ⟨fun _ => ?_, fun c => absurd (nI_le (Nat.le_refl i) (by omega)) c⟩
            refine r_told0 ⟨_, rfl, ?_, TH.gr hN hR hX1 hV⟩
            cases i with
            | zero => rfl
            | succ i =>
              obtain ⟨u, u1, u2⟩ := gWn_s (f := f) i
              rw [u2]
              unfold rwn cwn
              dsimp only
              rw [if_neg (nI_pos (by omega))]
          | succ q ih =>
            intro i hi V7 hV
            refine okX7_gains_35 (I35 := fun x1 x2 x3 x4 x5 W => x1 = a ∧ x2 = b ∧ x3 = rwn (gWn f (i + 1)).1 ∧ x4 = (gWn f (i + 1)).2 ∧ x5 = nI (i + 1) ∧ TM M W (M 25 0)) a b _ _ _ V7 (fun x1 x2 x3 x4 x5 W z => ?_) ?_
            · obtain ⟨rfl, rfl, rfl, rfl, rfl, z1⟩ := z
              exact ih (i + 1) (by omega) W z1
            · unfold wpX7_gains_35 wpX7_gains_91 wpX7_gains_97
              rw [hV.1, q1.1]
              refine ⟨fun c => absurd c (nI_ge (by omega) (by omega)), fun _ => ?_⟩
              refine clX7_waterAt (nI i) _ ⟨_, rfl, ?_⟩
              refine r_behind (j := 63 + 6 * i) hV (fun _ _ => rfl) q4 q1.1 hm q7 (by omega) eb (wat i) (by omega) (fun V5 h5 => ⟨_, rfl, fun V7' e7 => ?_⟩)
              have h7 : TM M V7' (upd (M 25 0) 3 a) := by
                rw [e7, mu_eq, h5.1]
                exact h5.put
              refine clX7_waterAt (nI i) _ ⟨_, rfl, ?_⟩
              refine r_behind (j := 63 + 6 * i) h7 (fun i hi => up_n (by omega)) (q4.cong (up_n (by omega)) (fun i hi => up_n (by omega))) ((up_n (by omega)).trans q1.1) hm ((up_n (by omega)).trans q7) (by omega) eb (wat i) (by omega) (fun V10 h10 => ⟨_, rfl, fun z12 e12 => ?_⟩)
              have e12 : z12 = f i := e12
              cases i with
              | zero =>
                refine ⟨fun _ => ⟨fun c => absurd rfl c, fun _ => ⟨rfl, rfl, rfl, e12, rfl, h10⟩⟩, fun c => absurd (show (-1 : Int32) < 0 by decide) c⟩
              | succ i =>
                obtain ⟨u, u1, u2⟩ := gWn_s (f := f) i
                have hw : gWn f (i + 1 + 1) = if f (i + 1) ≤ (gWn f (i + 1)).2 then gWn f (i + 1) else (some (i + 1), f (i + 1)) := by
                  rw [gWn, u2]
                have hr : rwn (gWn f (i + 1)).1 = nI u := by rw [u2]; rfl
                refine ⟨fun c => ?_, fun _ => ⟨fun c => ⟨fun _ => ⟨rfl, rfl, ?_, ?_, nI_1 (i + 1), h10⟩, fun c2 => ?_⟩, fun c => ⟨fun c2 => absurd rfl c2, fun _ => ⟨rfl, rfl, ?_, ?_, nI_1 (i + 1), h10⟩⟩⟩⟩
                · rw [hr] at c; exact absurd c (nI_pos (by omega))
                · rw [e12] at c; rw [hw, if_pos c]
                · rw [e12] at c; rw [hw, if_pos c]
                · rw [hr] at c2; exact absurd ((nI_eq (by omega) (by omega)).mp c2) (by omega)
                · rw [e12] at c; rw [hw, if_neg c]; rfl
                · rw [e12] at c; rw [hw, if_neg c]; exact e12
        refine clX7_gains (I35 := fun x1 x2 x3 x4 x5 W => x1 = a ∧ x2 = b ∧ x3 = -1 ∧ x4 = 0 ∧ x5 = nI 0 ∧ TM M W (M 25 0)) a b M (fun x1 x2 x3 x4 x5 W z => ?_) ?_
        · obtain ⟨rfl, rfl, rfl, rfl, rfl, z1⟩ := z
          exact L m 0 (by omega) W z1
        · unfold wpX7_gains_0
          refine rwT hc ⟨_, rfl, t1 (rwT hc2 ⟨_, rfl, t2 ?_⟩)⟩
          exact r_thinks (fun V7 hV => ⟨rfl, rfl, rfl, rfl, rfl, rfl, hV⟩)
      have L : ∀ V8, TH X V8 → RW V8 2 (gHours (upd (M 25 0) 3 a) T h m k).1 m → (∀ i, i < m → V8 22 0 i = (gHours (M 25 0) T h m k).1 (63 + 6 * i)) → ∀ q i, i + q = m → Gq (Kp (d + 12) mX6_gains UX (fun v X1 => ∃ a0, v = some (aI a0) ∧ Cl UM (d + 12) mX7_gains [aR 24 0, aI a, aI b] M (fun v2 M1 => v2 = some (aI a0) ∧ GR X1 M1))) UX cX6_gains 7 RX6 65 [(0, aR 0 0), (1, aI a), (2, aI b), (3, aI (cwn (gWn f i).1)), (4, aI (gWn f i).2), (5, aI (nI i))] [] V8 := by
        intro V8 hT hV h22 q
        induction q with
        | zero =>
          intro i hi
          have hi : i = m := by omega
          subst hi
          refine okX6_gains_65 (I65 := fun _ _ _ _ _ _ => False) a b _ _ _ V8 (fun _ _ _ _ _ _ q => q.elim) ?_
          unfold wpX6_gains_65
          rw [hV.many]
          exact ⟨fun _ => ⟨_, rfl, R V8 hT⟩, fun c => absurd (nI_le (Nat.le_refl i) (by omega)) c⟩
        | succ q ih =>
          intro i hi
          refine okX6_gains_65 (I65 := fun x1 x2 x3 x4 x5 W => x1 = a ∧ x2 = b ∧ x3 = cwn (gWn f (i + 1)).1 ∧ x4 = (gWn f (i + 1)).2 ∧ x5 = nI (i + 1) ∧ W = V8) a b _ _ _ V8 (fun x1 x2 x3 x4 x5 W z => ?_) ?_
          · obtain ⟨rfl, rfl, rfl, rfl, rfl, hW⟩ := z
            rw [hW]
            exact ih (i + 1) (by omega)
          · unfold wpX6_gains_65
            rw [hV.many]
            refine ⟨fun c => absurd c (nI_ge (by omega) (by omega)), fun _ => ⟨i, rfl, by omega, fun z2 e2 => ?_⟩⟩
            have e2 : z2 = f i := by rw [e2, hV.rf (i := i) (by omega) (by omega), h22 i (by omega), show 59 + 6 * i + 4 = 63 + 6 * i by omega]
            cases i with
            | zero =>
              exact ⟨fun _ => ⟨rfl, rfl, rfl, e2, rfl, rfl⟩, fun c => absurd rfl c⟩
            | succ i =>
              obtain ⟨u, u1, u2⟩ := gWn_s (f := f) i
              have hw : gWn f (i + 1 + 1) = if f (i + 1) ≤ (gWn f (i + 1)).2 then gWn f (i + 1) else (some (i + 1), f (i + 1)) := by
                rw [gWn, u2]
              have hr : cwn (gWn f (i + 1)).1 = nI u := by rw [u2]; rfl
              refine ⟨fun c => ?_, fun _ => ⟨fun c => ⟨rfl, rfl, ?_, ?_, nI_1 (i + 1), rfl⟩, fun c => ⟨rfl, rfl, ?_, ?_, nI_1 (i + 1), rfl⟩⟩⟩
              · rw [hr] at c
                have := congrArg Int32.toInt c
                rw [nI_toInt (by omega), show (-1000000005 : Int32).toInt = -1000000005 from rfl] at this
                omega
              · rw [e2] at c; rw [hw, if_pos c]
              · rw [e2] at c; rw [hw, if_pos c]
              · rw [e2] at c; rw [hw, if_neg c]; rfl
              · rw [e2] at c; rw [hw, if_neg c]; exact e2
      refine clX6_gains (I65 := fun x1 x2 x3 x4 x5 W => x1 = a ∧ x2 = b ∧ x3 = -1000000005 ∧ x4 = 0 ∧ x5 = nI 0 ∧ TH X W ∧ RW W 2 (gHours (upd (M 25 0) 3 a) T h m k).1 m ∧ (∀ i, i < m → W 22 0 i = (gHours (M 25 0) T h m k).1 (63 + 6 * i))) a b X (fun x1 x2 x3 x4 x5 W z => ?_) ?_
      · obtain ⟨rfl, rfl, rfl, rfl, rfl, z1, z2, z3⟩ := z
        exact L W z1 z2 z3 m 0 (by omega)
      · unfold wpX6_gains_0
        refine xwT hc ⟨_, rfl, t1 (xwT hc2 ⟨_, rfl, t2 ?_⟩)⟩
        refine x_waters (k := k) hN.1 (by omega) (by omega) (by omega) eb (fun V5 hT5 h5 => ⟨rfl, ?_⟩)
        refine x_become (by omega) (by omega) (by omega) (TH.ws hN.1 hT5) (fun V6 hS6 hF6 => ⟨rfl, fun V7 e7 => ?_⟩)
        have hF7 : FR 2 V6 V7 := by rw [e7]; exact FR.rf.mu2
        have hRW : RW V7 2 (upd (M 25 0) 3 a) m := by
          rw [e7]
          exact hS6.1.set 3 (by omega) (by omega) a
        have hS7 : WS V7 2 (upd (M 25 0) 3 a) m T h (738 * (h : Int)) := hS6.fr2 hRW hF7 (hS6.2.1.out (by omega)) (fun i hi => up_n (by omega))
        refine x_passHours (k := k) (by omega) hS7 (by omega) (by omega) (by omega) eb (fun V8 hS8 hF8 => ⟨_, rfl, rfl, rfl, rfl, rfl, rfl, ((hT5.tr (TH.fb hF6)).tr (TH.fr hF7)).tr (TH.fr hF8), hS8.1, fun i hi => ?_⟩)
        rw [hF8 22 0 (by unfold foot; omega), hF7 22 0 (by unfold foot; omega), hF6 22 0 (by unfold footB; omega)]
        exact h5 i hi
    · exact S0 (xwT hc ⟨_, rfl, t1 (xwF hc2 ⟨_, rfl, f2 ⟨_, rfl, S _ _ (rwT hc ⟨_, rfl, t1 (rwF hc2 ⟨_, rfl, f2 ⟨rfl, hG⟩⟩)⟩)⟩⟩)⟩)
  · exact S0 (xwF hc ⟨_, rfl, f1 ⟨_, rfl, S _ _ (rwF hc ⟨_, rfl, f1 ⟨rfl, hG⟩⟩)⟩⟩)
end OPS10
