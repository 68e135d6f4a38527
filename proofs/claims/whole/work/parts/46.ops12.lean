/-! ===== explained, the reference's side, and the call ===== -/
section OPS12
variable {d D : Nat} {V W X M X1 M1 : Mem} {P : Option AV → Mem → Prop} {w v m h T i j k r t u q m1 h1 s : Nat} {n n1 : NF} {a b c x y z kk ss : Int32} {B B1 : Int}
theorem r_offBy {row : Nat → Int32} (hs4 : s < 4) (ea : a = nI s) (hT : TM M V (M 25 0)) (hI : WI (M 25 0) m (738 * (h : Int))) (hsk : sky (M 25 0)) (hLI : LawI (M 25 0) T) (e1 : M 25 0 1 = nI m) (hm : m ≤ 8) (e2 : M 25 0 2 = nI h) (hh : h ≤ 9999) (h38 : M 38 0 s = nI k) (hk : k ≤ 24) (hrow : ∀ i, i < k → M 39 0 (24 * s + i) = row i) (hr : ∀ i, i < k → row i = -1000000005 ∨ (-99999 ≤ (row i).toInt ∧ (row i).toInt ≤ 99999))
    (hp : ∀ M1 b, TM M M1 (M 25 0) → b.toInt = gOff (upd (M 25 0) 3 y) T h m row k → P (some (aL b)) M1) : Cl UM (d + 7) mX7_offBy [aR 24 0, aI a, aI y] V P := by
  have hI3 : WI (upd (M 25 0) 3 y) m (738 * (h : Int)) := hI.out (by omega)
  have hs3 : sky (upd (M 25 0) 3 y) := hsk.out (by omega)
  have hw := wat_rng (T := T) hI3 hs3 hm hh
  have hO := gOff_rng (row := row) (k := k) hw hr
  have hL3 : LawI (upd (M 25 0) 3 y) T := hLI.cong (up_n (by omega)) (fun i hi => up_n (by omega))
  have L : ∀ q i, i + q = k → ∀ V1 y3, TM M V1 (gHours (upd (M 25 0) 3 y) T h m i).1 → y3.toInt = gOff (upd (M 25 0) 3 y) T h m row i → Gq (Kp (d + 7) mX7_offBy UM P) UM cX7_offBy 10 RX7 12 [(0, aR 24 0), (1, aI a), (2, aI y), (3, aL y3), (5, aI (nI i))] [] V1 := by
    intro q
    induction q with
    | zero =>
      intro i hi V1 y3 hV hy
      refine okX7_offBy_12 (I12 := fun _ _ _ _ _ => False) a y y3 _ V1 (fun _ _ _ _ _ q => q.elim) ?_
      unfold wpX7_offBy_12
      have hi : i = k := by omega
      subst hi
      rw [hV.2.2 38 (nM_o rfl)]
      refine ⟨s, ea, hs4, fun _ => ?_, fun c => absurd (by rw [h38]; exact nI_le (Nat.le_refl i) (by omega)) c⟩
      exact r_puts hV (fun i hi => by rw [gHours_o (not_hot (by omega) (by omega)), up_n (by omega)]) (fun M1 h1 => ⟨rfl, hp M1 y3 h1 hy⟩)
    | succ q ih =>
      intro i hi V1 y3 hV hy
      refine okX7_offBy_12 (I12 := fun x1 x2 y3 x5 W => x1 = a ∧ x2 = y ∧ x5 = nI (i + 1) ∧ TM M W (gHours (upd (M 25 0) 3 y) T h m (i + 1)).1 ∧ y3.toInt = gOff (upd (M 25 0) 3 y) T h m row (i + 1)) a y y3 _ V1 (fun x1 x2 y3 x5 W z => ?_) ?_
      · obtain ⟨rfl, rfl, rfl, z1, z2⟩ := z
        exact ih (i + 1) (by omega) W y3 z1 z2
      · have hOi := hO i (by omega) (by omega)
        have hOs := hO (i + 1) (by omega) (by omega)
        have hwi := hw i (by omega)
        have h25 := hV.1
        -- the hour that follows
        have G : ∀ y4 : Int64, y4.toInt = gOff (upd (M 25 0) 3 y) T h m row (i + 1) → cI (Cl UM (d + 6)) mX7_hour [aR 24 0] V1 (fun x_8 V_7 => (fun x1 x2 y3 x5 W => x1 = a ∧ x2 = y ∧ x5 = nI (i + 1) ∧ TM M W (gHours (upd (M 25 0) 3 y) T h m (i + 1)).1 ∧ y3.toInt = gOff (upd (M 25 0) 3 y) T h m row (i + 1)) a y y4 (nI i + 1) V_7) := by
          intro y4 hy4
          refine r_hour (T := T) (h := h + i) (m := m) (by rw [h25]; exact gHours_law hL3 hm) (by rw [h25, gHours_o (not_hot (by omega) (by omega)), up_n (by omega)]; exact e1) hm (by rw [h25]; exact gHours_2 ((up_n (by omega)).trans e2) i) (by omega) (fun f s => ⟨_, rfl, rfl, rfl, nI_1 i, ?_, hy4⟩)
          rw [h25]
          exact hV.m3
        unfold wpX7_offBy_12
        rw [hV.2.2 38 (nM_o rfl), hV.2.2 39 (nM_o rfl), h25]
        refine ⟨s, ea, hs4, fun c => ?_, fun _ => ⟨24 * s + i, ?_, by omega, fun z4 e4 z5 e5 => ?_⟩⟩
        · rw [h38] at c; exact absurd c (nI_ge (by omega) (by omega))
        · rw [ea, show (24 : Int32) = nI 24 from rfl, pk_mul, nI_add]
        rw [hrow i (by omega)] at e4
        refine ⟨fun c => ?_, fun c z13 e13 => G z13 ?_⟩
        · rw [e4] at c e5
          have hri := (hr i (by omega)).resolve_left c
          rw [gOff, if_neg c] at hOs
          have e6 : z5.toInt = (row i).toInt - ((gHours (upd (M 25 0) 3 y) T h m i).1 5).toInt := by
            rw [e5, tl_sub (by rw [tl_of, tl_of]; omega) (by rw [tl_of, tl_of]; omega), tl_of, tl_of]
          have t0 : (0 : Int64).toInt = 0 := rfl
          refine ⟨fun c1 z6 e7 => G z6 ?_, fun c1 z9 e9 => G z9 ?_⟩
          · rw [lg_cmp_ge, tl_le, t0, e6] at c1
            rw [e7, tl_add (by omega) (by omega), hy, e6, gOff, if_neg c]
            unfold gAb
            by_cases q0 : 0 ≤ ((gHours (upd (M 25 0) 3 y) T h m i).1 5).toInt - (row i).toInt
            · rw [if_pos q0]; omega
            · rw [if_neg q0]; omega
          · rw [lg_cmp_ge, tl_le, t0, e6] at c1
            have e10 : (-z5).toInt = -z5.toInt := tl_neg (by omega) (by omega)
            rw [e9, tl_add (by omega) (by omega), hy, e10, e6, gOff, if_neg c]
            unfold gAb
            by_cases q0 : 0 ≤ ((gHours (upd (M 25 0) 3 y) T h m i).1 5).toInt - (row i).toInt
            · rw [if_pos q0]; omega
            · rw [if_neg q0]; omega
        · rw [e4] at c
          rw [gOff, if_pos c, e13, Int64.add_zero, hy]; omega
  refine clX7_offBy (I12 := fun x1 x2 y3 x5 W => x1 = a ∧ x2 = y ∧ y3 = 0 ∧ x5 = nI 0 ∧ TM M W (gHours (upd (M 25 0) 3 y) T h m 0).1) a y V (fun x1 x2 y3 x5 W z => ?_) ?_
  · obtain ⟨rfl, rfl, rfl, rfl, z1⟩ := z
    exact L k 0 (by omega) W 0 z1 rfl
  · unfold wpX7_offBy_0
    intro V1 e1
    refine ⟨rfl, rfl, rfl, rfl, ?_⟩
    rw [e1, mu_eq, hT.1]
    exact hT.put
theorem xsT (hc : 0 ≤ a ∧ a ≤ 3) (hp : P (some (aI 1)) V) : Cl UX (d + 2) mX6_isSheet [aI a] V P := x_isSheet (by rw [if_pos hc]; exact hp)
theorem xsF (hc : ¬ (0 ≤ a ∧ a ≤ 3)) (hp : P (some (aI 0)) V) : Cl UX (d + 2) mX6_isSheet [aI a] V P := x_isSheet (by rw [if_neg hc]; exact hp)
theorem rsT (hc : 0 ≤ a ∧ a ≤ 3) (hp : P (some (aI 1)) V) : Cl UM (d + 2) mX7_isSheet [aI a] V P := r_isSheet (by rw [if_pos hc]; exact hp)
theorem rsF (hc : ¬ (0 ≤ a ∧ a ≤ 3)) (hp : P (some (aI 0)) V) : Cl UM (d + 2) mX7_isSheet [aI a] V P := r_isSheet (by rw [if_neg hc]; exact hp)
theorem op_explained (hG : GR X M) : OP (d + 12) mX6_explained mX7_explained [aI a, aI b] X M := by
  obtain ⟨m, T, h, hN, hR⟩ := id hG
  obtain ⟨q1, q2, q3, q4, q5, q6, q7⟩ := id hN.1
  have hm := q1.2.1
  have hh := hN.2
  have S : ∀ (a0 : Int32) (X1 : Mem), wpX7_explained_0 (Cl UM (d + 11)) (fun _ _ _ _ _ _ => False) a b M (fun v2 M1 => v2 = some (aI a0) ∧ GR X1 M1) → Cl UM (d + 12) mX7_explained [aR 24 0, aI a, aI b] M (fun v2 M1 => v2 = some (aI a0) ∧ GR X1 M1) := fun a0 X1 q => clX7_explained (I48 := fun _ _ _ _ _ _ => False) a b M (fun _ _ _ _ _ _ q => q.elim) q
  have S0 : wpX6_explained_0 (Cl UX (d + 11)) (fun _ _ _ _ _ _ => False) a b X (fun v X1 => ∃ a0, v = some (aI a0) ∧ Cl UM (d + 12) mX7_explained [aR 24 0, aI a, aI b] M (fun v2 M1 => v2 = some (aI a0) ∧ GR X1 M1)) → OP (d + 12) mX6_explained mX7_explained [aI a, aI b] X M := fun q => clX6_explained (I52 := fun _ _ _ _ _ _ => False) a b X (fun _ _ _ _ _ _ q => q.elim) q
  unfold wpX7_explained_0 at S
  unfold wpX6_explained_0 at S0
  by_cases hc : 0 ≤ a ∧ a ≤ 3
  · obtain ⟨s, hs, ea⟩ := in_nI (N := 3) (by omega) hc
    by_cases hc2 : 0 ≤ b ∧ b ≤ 1
    · obtain ⟨s1, k, hk, s2, s3, s4, s5⟩ := hR.2.1 s (by omega)
      by_cases hm1 : M 37 0 s = -1
      · refine S0 (xsT hc ⟨_, rfl, t1 (xwT hc2 ⟨_, rfl, t2 ⟨s, ea, by omega, ?_⟩⟩)⟩)
        refine clX3_isMissing s (by omega) X ?_
        unfold wpX3_isMissing_0
        rw [s1]
        refine ⟨fun c => absurd hm1 c, fun _ => ⟨_, rfl, t1 ⟨_, rfl, S _ _ ?_⟩⟩⟩
        refine rsT hc ⟨_, rfl, t1 (rwT hc2 ⟨_, rfl, t2 ⟨s, ea, by omega, fun c => ?_, fun _ => ⟨rfl, hG⟩⟩⟩)⟩
        rw [hm1] at c; exact absurd c (by decide)
      · clear S S0
        have hp1 : 0 ≤ M 37 0 s := by
          rcases s4 with s4 | s4 | s4
          · exact absurd s4.1 hm1
          · rw [s4]; decide
          · rw [s4]; decide
        let f : Nat → Int := fun i => gOff (upd (M 25 0) 3 (nI i)) T h m (X 23 s) k
        have hrw : ∀ i, i < k → M 39 0 (24 * s + i) = X 23 s i := fun i hi => ((s5 i hi).1).symm
        have hrr : ∀ i, i < k → X 23 s i = -1000000005 ∨ (-99999 ≤ (X 23 s i).toInt ∧ (X 23 s i).toInt ≤ 99999) := fun i hi => (s5 i hi).2
        have fr : ∀ i, 0 ≤ f i ∧ f i ≤ 200000000 := fun i => by
          have := gOff_rng (row := X 23 s) (k := k) (wat_rng (T := T) (q2.out (x := nI i) (p := 3) (by omega)) (q3.out (by omega)) hm hh) hrr k (Nat.le_refl k) hk
          have : 0 ≤ f i ∧ f i ≤ 8000000 * k := this
          omega
        have mr : ∀ i, (gMin f i).1 ≤ i ∧ 0 ≤ (gMin f i).2 ∧ (gMin f i).2 ≤ 200000000 := fun i => by
          induction i with
          | zero => exact ⟨Nat.le_refl _, fr 0⟩
          | succ i ih =>
            rw [gMin]
            split
            · exact ⟨by omega, ih.2⟩
            · exact ⟨Nat.le_refl _, fr (i + 1)⟩
        -- the reference
        have R : ∀ (a0 : Int32) (X1 : Mem), TH X X1 → (b = 0 → a0 = nI (gMin f 24).1) → (¬ b = 0 → a0.toInt = (gMin f 24).2) → Cl UM (d + 12) mX7_explained [aR 24 0, aI a, aI b] M (fun v2 M1 => v2 = some (aI a0) ∧ GR X1 M1) := by
          intro a0 X1 hX1 g0 g1
          have Y : ∀ (i : Nat) (V7 : Mem) (Q : Int64 → Mem → Prop), TM M V7 (M 25 0) → (∀ M1 y, TM M M1 (M 25 0) → y.toInt = f i → Q y M1) → cL (Cl UM (d + 11)) mX7_offBy [aR 24 0, aI a, aI (nI i)] V7 Q := by
            intro i V7 Q hV hQ
            exact r_offBy (row := X 23 s) (by omega) ea hV q2 q3 q4 q1.1 hm q7 hh s3 hk hrw hrr (fun M1 y h1 hy => ⟨_, rfl, hQ M1 y h1 hy⟩)
          have L : ∀ q i, i + q = 24 → ∀ V7 y4, TM M V7 (M 25 0) → y4.toInt = (gMin f i).2 → Gq (Kp (d + 12) mX7_explained UM (fun v2 M1 => v2 = some (aI a0) ∧ GR X1 M1)) UM cX7_explained 9 RX7 48 [(0, aR 24 0), (1, aI a), (2, aI b), (3, aI (nI (gMin f i).1)), (4, aL y4), (6, aI (nI (i + 1)))] [] V7 := by
            intro q
            induction q with
            | zero =>
              intro i hi V7 y4 hV hy
              have hi : i = 24 := by omega
              subst hi
              refine okX7_explained_48 (I48 := fun _ _ _ _ _ _ => False) a b _ y4 _ V7 (fun _ _ _ _ _ _ q => q.elim) ?_
              unfold wpX7_explained_48
              have h24 := mr 24
              refine ⟨fun _ => ⟨fun c => ⟨?_, TH.gr hN hR hX1 hV⟩, fun c => ⟨by rw [g0 c], TH.gr hN hR hX1 hV⟩⟩, fun c => absurd (by decide) c⟩
              have : y4.toInt32 = a0 := ti_eq.mpr (by rw [tl_to (by omega) (by omega), g1 c, hy])
              rw [this]
            | succ q ih =>
              intro i hi V7 y4 hV hy
              refine okX7_explained_48 (I48 := fun x1 x2 x3 y4 x6 W => x1 = a ∧ x2 = b ∧ x3 = nI (gMin f (i + 1)).1 ∧ x6 = nI (i + 1 + 1) ∧ TM M W (M 25 0) ∧ y4.toInt = (gMin f (i + 1)).2) a b _ y4 _ V7 (fun x1 x2 x3 y4 x6 W z => ?_) ?_
              · obtain ⟨rfl, rfl, rfl, rfl, z1, z2⟩ := z
                exact ih (i + 1) (by omega) W y4 z1 z2
              · unfold wpX7_explained_48 wpX7_explained_78
                refine ⟨fun c => absurd c (nI_ge (b := 25) (by omega) (by omega)), fun _ => ?_⟩
                refine Y (i + 1) V7 _ hV (fun M1 y h1 hf => ?_)
                refine ⟨fun c => ⟨fun _ => ⟨rfl, rfl, ?_, nI_1 (i + 1), h1, ?_⟩, fun c2 => absurd c c2⟩, fun c => ⟨fun c2 => absurd c2 c, fun _ => ⟨rfl, rfl, ?_, nI_1 (i + 1), h1, ?_⟩⟩⟩
                · rw [lg_cmp_ge, tl_le, hf, hy] at c; rw [gMin, if_pos c]
                · rw [lg_cmp_ge, tl_le, hf, hy] at c; rw [gMin, if_pos c, hy]
                · rw [lg_cmp_ge, tl_le, hf, hy] at c; rw [gMin, if_neg c]
                · rw [lg_cmp_ge, tl_le, hf, hy] at c; rw [gMin, if_neg c, hf]
          refine clX7_explained (I48 := fun x1 x2 x3 y4 x6 W => x1 = a ∧ x2 = b ∧ x3 = nI (gMin f 0).1 ∧ x6 = nI (0 + 1) ∧ TM M W (M 25 0) ∧ y4.toInt = (gMin f 0).2) a b M (fun x1 x2 x3 y4 x6 W z => ?_) ?_
          · obtain ⟨rfl, rfl, rfl, rfl, z1, z2⟩ := z
            exact L 24 0 (by omega) W y4 z1 z2
          · unfold wpX7_explained_0
            refine rsT hc ⟨_, rfl, t1 (rwT hc2 ⟨_, rfl, t2 ⟨s, ea, by omega, fun _ => ?_, fun c => absurd hp1 c⟩⟩)⟩
            refine r_thinks (fun V7 hV => ⟨rfl, ?_⟩)
            exact Y 0 V7 _ hV (fun M1 y h1 hf => ⟨rfl, rfl, rfl, rfl, h1, hf⟩)
        have Z : ∀ (i : Nat) (V1 : Mem) (Q : Int32 → Mem → Prop), TH X V1 → (∀ V2 x, TH X V2 → x.toInt = f i → Q x V2) → cI (Cl UX (d + 11)) mX6_misfit [aR 0 0, aR 4 s, aI (nI i)] V1 Q := by
          intro i V1 Q hV hQ
          refine x_misfit (T := T) (h := h) (m := m) (k := k) (n := M 25 0) (row := X 23 s) (by omega) (TH.ws hN.1 hV) hh (by rw [hV 4 s (by unfold thk footB; omega)]; exact s2) hk (fun i hi => by rw [hV 23 s (by unfold thk footB; omega)]) hrr (fun X1 x h1 hx => ⟨_, rfl, hQ X1 x (hV.tr h1) hx⟩)
        have L : ∀ q i, i + q = 24 → ∀ V1 x4, TH X V1 → x4.toInt = (gMin f i).2 → Gq (Kp (d + 12) mX6_explained UX (fun v X1 => ∃ a0, v = some (aI a0) ∧ Cl UM (d + 12) mX7_explained [aR 24 0, aI a, aI b] M (fun v2 M1 => v2 = some (aI a0) ∧ GR X1 M1))) UX cX6_explained 7 RX6 52 [(0, aR 0 0), (1, aI a), (2, aI b), (3, aI (nI (gMin f i).1)), (4, aI x4), (5, aI (nI (i + 1)))] [] V1 := by
          intro q
          induction q with
          | zero =>
            intro i hi V1 x4 hV hx
            have hi : i = 24 := by omega
            subst hi
            refine okX6_explained_52 (I52 := fun _ _ _ _ _ _ => False) a b _ x4 _ V1 (fun _ _ _ _ _ _ q => q.elim) ?_
            unfold wpX6_explained_52
            exact ⟨fun _ => ⟨fun c => ⟨_, rfl, R _ V1 hV (fun c2 => absurd c2 c) (fun _ => hx)⟩, fun c => ⟨_, rfl, R _ V1 hV (fun _ => rfl) (fun c2 => absurd c c2)⟩⟩, fun c => absurd (by decide) c⟩
          | succ q ih =>
            intro i hi V1 x4 hV hx
            refine okX6_explained_52 (I52 := fun x1 x2 x3 x4 x5 W => x1 = a ∧ x2 = b ∧ x3 = nI (gMin f (i + 1)).1 ∧ x5 = nI (i + 1 + 1) ∧ TH X W ∧ x4.toInt = (gMin f (i + 1)).2) a b _ x4 _ V1 (fun x1 x2 x3 x4 x5 W z => ?_) ?_
            · obtain ⟨rfl, rfl, rfl, rfl, z1, z2⟩ := z
              exact ih (i + 1) (by omega) W x4 z1 z2
            · unfold wpX6_explained_52
              refine ⟨fun c => absurd c (nI_nlt (a := 24) (by omega) (by omega)), fun _ => ⟨s, ea, by omega, ?_⟩⟩
              refine Z (i + 1) V1 _ hV (fun V2 x h2 hf => ⟨fun c => ⟨rfl, rfl, ?_, nI_1 (i + 1), h2, ?_⟩, fun c => ⟨rfl, rfl, ?_, nI_1 (i + 1), h2, ?_⟩⟩)
              · rw [ti_le, hf, hx] at c; rw [gMin, if_pos c]
              · rw [ti_le, hf, hx] at c; rw [gMin, if_pos c, hx]
              · rw [ti_le, hf, hx] at c; rw [gMin, if_neg c]
              · rw [ti_le, hf, hx] at c; rw [gMin, if_neg c, hf]
        refine clX6_explained (I52 := fun x1 x2 x3 x4 x5 W => x1 = a ∧ x2 = b ∧ x3 = nI (gMin f 0).1 ∧ x5 = nI (0 + 1) ∧ TH X W ∧ x4.toInt = (gMin f 0).2) a b X (fun x1 x2 x3 x4 x5 W z => ?_) ?_
        · obtain ⟨rfl, rfl, rfl, rfl, z1, z2⟩ := z
          exact L 24 0 (by omega) W x4 z1 z2
        · unfold wpX6_explained_0
          refine xsT hc ⟨_, rfl, t1 (xwT hc2 ⟨_, rfl, t2 ⟨s, ea, by omega, ?_⟩⟩)⟩
          refine clX3_isMissing s (by omega) X ?_
          unfold wpX3_isMissing_0
          rw [s1]
          refine ⟨fun _ => ⟨_, rfl, f1 ?_⟩, fun c => absurd c hm1⟩
          exact Z 0 X _ TH.rf (fun V2 x h2 hf => ⟨rfl, rfl, rfl, rfl, h2, hf⟩)
    · exact S0 (xsT hc ⟨_, rfl, t1 (xwF hc2 ⟨_, rfl, f2 ⟨_, rfl, S _ _ (rsT hc ⟨_, rfl, t1 (rwF hc2 ⟨_, rfl, f2 ⟨rfl, hG⟩⟩)⟩)⟩⟩)⟩)
  · exact S0 (xsF hc ⟨_, rfl, f1 ⟨_, rfl, S _ _ (rsF hc ⟨_, rfl, f1 ⟨rfl, hG⟩⟩)⟩⟩)
end OPS12
