/-! ===== the calls, side by side: deal, sky ===== -/
def rmn (c p : Int32) : Int32 := p - p / c * c
def gDeal (n : NF) (m : Nat) : Nat → NF
  | 0 => n
  | k + 1 => gComes (upd (gDeal n m k) 0 (gZ (gZ (gDeal n m k 0)))) (m + k) (rmn 6 (gD (gZ (gDeal n m k 0)))) (1 + rmn 9 (gD (gZ (gZ (gDeal n m k 0)))))
def gSky (n : NF) : Nat → NF
  | 0 => n
  | k + 1 => upd (upd (upd (gSky n k) (11 + k) (rmn 21 (gD (gZ (gSky n k 0))) - 10)) 0 (gZ (gZ (gSky n k 0)))) (35 + k) (rmn 10 (gD (gZ (gZ (gSky n k 0)))))
def gSkS (n : NF) : Nat → Int32
  | 0 => 0
  | k + 1 => gSkS n k + rmn 10 (gD (gZ (gZ (gSky n k 0))))
section OPS7
variable {d D : Nat} {V W X M X1 M1 : Mem} {P : Option AV → Mem → Prop} {w m h T i j k r t u q m1 h1 : Nat} {n n1 : NF} {a b c x y z kk ss : Int32} {B B1 : Int}
theorem gD_of (z : Int32) : ∃ p, p < 2 ^ 24 ∧ gD z = nI p := by
  have hz : z = nI z.toBitVec.toNat := Int32.toBitVec_inj.mp (BitVec.eq_of_toNat_eq (by rw [pk_tn z.toBitVec.isLt]))
  have hl : z.toBitVec.toNat < 2 ^ 32 := z.toBitVec.isLt
  refine ⟨z.toBitVec.toNat / 2 ^ 8, by omega, ?_⟩
  unfold gD
  have := pk_ushrN hl 8 8 (by decide)
  rw [← hz] at this
  exact this
theorem rmn_rng {c : Nat} (h0 : 0 < c) (hc : c < 2 ^ 31) : ∃ p, p < c ∧ rmn (nI c) (gD z) = nI p := by
  obtain ⟨p, hp, e⟩ := gD_of z
  refine ⟨p % c, Nat.mod_lt _ h0, ?_⟩
  unfold rmn
  rw [e]
  exact pk_rem (by omega) h0 hc
theorem rmn_ti {c : Nat} (h0 : 0 < c) (hc : c < 2 ^ 31) : 0 ≤ (rmn (nI c) (gD z)).toInt ∧ (rmn (nI c) (gD z)).toInt < c := by
  obtain ⟨p, hp, e⟩ := rmn_rng (z := z) h0 hc
  rw [e, nI_toInt (by omega)]
  omega
theorem rmn1_ti : 1 ≤ (1 + rmn 9 (gD z)).toInt ∧ (1 + rmn 9 (gD z)).toInt ≤ 9 := by
  have h := rmn_ti (z := z) (c := 9) (by omega) (by omega)
  have h : 0 ≤ (rmn 9 (gD z)).toInt ∧ (rmn 9 (gD z)).toInt < 9 := h
  have e1 : (1 : Int32).toInt = 1 := rfl
  rw [ti_add (by omega) (by omega)]
  omega
theorem WS.sc0 (hS : WS X 0 n m T h B) : WS (mu X 2 0 9 x) 0 (upd n 0 x) m T h B := by
  obtain ⟨q1, q2, q3, q4, q5, q6, q7⟩ := id hS
  exact hS.mod (q1.set 0 (by omega) (by omega) x) (q2.out (by omega)) (q3.out (by omega)) (up_n (by omega)) (fun j hj => up_n (by omega)) ((up_n (by omega)).trans q7) (fr_L FR.rf.mu2)
theorem mu_mu : mu (mu V r i k x) r i k y = mu V r i k y := by
  rw [mu_eq, mu_eq, mu_eq, ma_same, ma_ma, up_up]
theorem op_deal (hG : GR X M) : OP (d + 12) mX6_deal mX7_deal [aI a] X M := by
  obtain ⟨m, T, h, hN, hR⟩ := id hG
  have hm := hN.1.1.2.1
  have hX : X 2 0 6 = nI m := hN.1.1.many
  have hM : M 25 0 1 = nI m := hN.1.1.1
  by_cases hc : 1 ≤ a ∧ a ≤ 8
  · obtain ⟨N, hn8, ea⟩ := in_nI (N := 8) (by omega) ⟨by have := ti_le.mp hc.1; rw [show (1 : Int32).toInt = 1 from rfl] at this; rw [ti_le, ti0]; omega, hc.2⟩
    have S1 : ∀ k, gDeal (M 25 0) m k 1 = nI (m + k) := fun k => by
      cases k with
      | zero => exact hM
      | succ k => rw [gDeal, gComes_1]; rfl
    -- the reference
    have R : ∀ X1, WS X1 0 (gDeal (M 25 0) m (min (8 - m) N)) (m + min (8 - m) N) T h (738 * (h : Int)) → FR 0 X X1 → Cl UM (d + 12) mX7_deal [aR 24 0, aI a] M (fun v2 M1 => v2 = some (aI (nI (min (8 - m) N))) ∧ GR X1 M1) := by
      intro X1 hS hF
      have L : ∀ q k, k + q = min (8 - m) N → Gq (Kp (d + 12) mX7_deal UM (fun v2 M1 => v2 = some (aI (nI (min (8 - m) N))) ∧ GR X1 M1)) UM cX7_deal 5 RX7 15 [(0, aR 24 0), (1, aI a), (2, aI (nI k))] [] (ma M 25 0 (gDeal (M 25 0) m k)) := by
        intro q
        induction q with
        | zero =>
          intro k hk
          have hk : k = min (8 - m) N := by omega
          refine okX7_deal_15 (I15 := fun _ _ _ => False) a _ _ (fun _ _ _ q => q.elim) ?_
          unfold wpX7_deal_15
          rw [ma_same, S1]
          have F : (fun v2 M1 => v2 = some (aI (nI (min (8 - m) N))) ∧ GR X1 M1) (some (aI (nI k))) (ma M 25 0 (gDeal (M 25 0) m k)) := by
            rw [hk]
            refine ⟨rfl, m + min (8 - m) N, T, h, ⟨?_, hN.2⟩, hR.eq (fr_now hF) (ma_now (Or.inl rfl))⟩
            rw [ma_same]
            exact hS
          refine ⟨fun _ => F, fun c => ⟨fun _ => F, fun c2 => ?_⟩⟩
          exfalso
          have hNk : ¬ N ≤ k := fun q => c (by rw [ea]; exact nI_le q (by omega))
          exact c2 (nI_le (a := 8) (b := m + k) (by omega) (by omega))
        | succ q ih =>
          intro k hk
          refine okX7_deal_15 (I15 := fun x1 x2 W => x1 = a ∧ x2 = nI (k + 1) ∧ W = ma M 25 0 (gDeal (M 25 0) m (k + 1))) a _ _ (fun x1 x2 W z => ?_) ?_
          · obtain ⟨rfl, rfl, hW⟩ := z
            rw [hW]
            exact ih (k + 1) (by omega)
          · unfold wpX7_deal_15
            rw [ma_same, S1]
            refine ⟨fun c => ?_, fun _ => ⟨fun c => ?_, fun _ => ?_⟩⟩
            · rw [ea] at c; exact absurd c (nI_ge (by omega) (by omega))
            · exact absurd c (nI_ge (a := m + k) (b := 8) (by omega) (by omega))
            · refine r_draw ⟨_, rfl, fun z3 e3 => ?_⟩
              refine r_draw ⟨_, rfl, fun z6 e6 => ?_⟩
              simp only [ma_same, ma_ma, up_up, up_s] at e3 e6
              rw [ma_same, ma_same, ma_ma, ma_ma, up_s, up_up]
              refine r_comes (r := m + k) (by rw [ma_same, up_n (by omega), S1]) (by omega) ⟨_, rfl, rfl, nI_1 k, ?_⟩
              rw [ma_same, ma_ma, gDeal, e3, e6]
              rfl
      refine clX7_deal (I15 := fun x1 x2 W => x1 = a ∧ x2 = nI 0 ∧ W = M) a M (fun x1 x2 W z => ?_) ?_
      · obtain ⟨rfl, rfl, hW⟩ := z
        rw [hW]
        have := L (min (8 - m) N) 0 (by omega)
        rw [gDeal, ma_eta] at this
        exact this
      · unfold wpX7_deal_0
        exact rwT hc ⟨_, rfl, t2 ⟨rfl, rfl, rfl⟩⟩
    have L : ∀ q k, k + q = min (8 - m) N → ∀ V1, WS V1 0 (gDeal (M 25 0) m k) (m + k) T h (738 * (h : Int)) → FR 0 X V1 → Gq (Kp (d + 12) mX6_deal UX (fun v X1 => ∃ a0, v = some (aI a0) ∧ Cl UM (d + 12) mX7_deal [aR 24 0, aI a] M (fun v2 M1 => v2 = some (aI a0) ∧ GR X1 M1))) UX cX6_deal 6 RX6 30 [(0, aR 0 0), (1, aI a), (2, aI (nI (min (8 - m) N))), (3, aI (nI k))] [] V1 := by
      intro q
      induction q with
      | zero =>
        intro k hk V1 hS hF
        have hk : k = min (8 - m) N := by omega
        refine okX6_deal_30 (I30 := fun _ _ _ _ => False) a _ _ V1 (fun _ _ _ _ q => q.elim) ?_
        unfold wpX6_deal_30
        rw [hk] at hS
        exact ⟨fun _ => ⟨_, rfl, R V1 hS hF⟩, fun c => absurd (nI_le (by omega) (by omega)) c⟩
      | succ q ih =>
        intro k hk V1 hS hF
        refine okX6_deal_30 (I30 := fun x1 x2 x3 W => x1 = a ∧ x2 = nI (min (8 - m) N) ∧ x3 = nI (k + 1) ∧ WS W 0 (gDeal (M 25 0) m (k + 1)) (m + (k + 1)) T h (738 * (h : Int)) ∧ FR 0 X W) a _ _ V1 (fun x1 x2 x3 W z => ?_) ?_
        · obtain ⟨rfl, rfl, rfl, z1, z2⟩ := z
          exact ih (k + 1) (by omega) W z1 z2
        · unfold wpX6_deal_30
          refine ⟨fun c => absurd c (nI_ge (by omega) (by omega)), fun _ => ?_⟩
          have e9 : V1 2 0 9 = gDeal (M 25 0) m k 0 := hS.1.sc 0 (by omega)
          refine x_draw (by omega) ⟨_, rfl, fun z3 e3 => ?_⟩
          refine x_draw (by omega) ⟨_, rfl, fun z6 e6 z7 e7 => ?_⟩
          rw [mu_sk, mu_mu, e9]
          rw [mu_sk, e9] at e6
          rw [e9] at e3
          have hS2 := hS.sc0 (x := gZ (gZ (gDeal (M 25 0) m k 0)))
          refine x_addRoof (m := m + k) (by omega) hS2.1.many (by omega) ⟨_, rfl, rfl, rfl, nI_1 k, ?_, ?_⟩
          · have k6 := rmn_ti (z := gZ (gDeal (M 25 0) m k 0)) (c := 6) (by omega) (by omega)
            have k6 : 0 ≤ (rmn 6 (gD (gZ (gDeal (M 25 0) m k 0)))).toInt ∧ (rmn 6 (gD (gZ (gDeal (M 25 0) m k 0)))).toInt < 6 := k6
            have k9 := rmn1_ti (z := gZ (gZ (gDeal (M 25 0) m k 0)))
            have := hS2.comes (kk := rmn 6 (gD (gZ (gDeal (M 25 0) m k 0)))) (ss := 1 + rmn 9 (gD (gZ (gZ (gDeal (M 25 0) m k 0))))) (by omega) (by omega) k9
            rw [e7, e6, e3, gDeal]
            exact this
          · exact (hF.mu2).tr (cBeg_fr (by omega))
    refine clX6_deal (I30 := fun x1 x2 x3 W => x1 = a ∧ x2 = nI (min (8 - m) N) ∧ x3 = nI 0 ∧ W = X) a X (fun x1 x2 x3 W z => ?_) ?_
    · obtain ⟨rfl, rfl, rfl, hW⟩ := z
      rw [hW]
      exact L (min (8 - m) N) 0 (by omega) X hN.1 FR.rf
    · unfold wpX6_deal_0
      refine xwT hc ⟨_, rfl, t2 (fun z ez => ⟨rfl, ?_, rfl, rfl⟩)⟩
      rw [ez, hX, ea, show (8 : Int32) - nI m = nI (8 - m) from pk_sub (a := 8) hm]
      by_cases q : 8 - m < N
      · rw [if_pos (nI_lt q (by omega)), Nat.min_eq_left (by omega)]
      · rw [if_neg (nI_nlt (by omega) (by omega)), Nat.min_eq_right (by omega)]
  · refine clX6_deal (I30 := fun _ _ _ _ => False) a X (fun _ _ _ _ q => q.elim) ?_
    unfold wpX6_deal_0
    refine xwF hc ⟨_, rfl, f2 ⟨_, rfl, ?_⟩⟩
    refine clX7_deal (I15 := fun _ _ _ => False) a M (fun _ _ _ q => q.elim) ?_
    unfold wpX7_deal_0
    exact rwF hc ⟨_, rfl, f2 ⟨rfl, hG⟩⟩
theorem gSky_o (hj : 0 < j) (hj2 : j < 11 ∨ 59 ≤ j) : ∀ k, k ≤ 24 → gSky n k j = n j
  | 0, _ => rfl
  | k + 1, hk => by rw [gSky, up_n (by omega), up_n (by omega), up_n (by omega), gSky_o hj hj2 k (by omega)]
theorem sky.gS (hs : sky n) (hI : WI n m B) : ∀ k, k ≤ 24 → sky (gSky n k) ∧ WI (gSky n k) m B
  | 0, _ => ⟨hs, hI⟩
  | k + 1, hk => by
    obtain ⟨i1, i2⟩ := hs.gS hI k (by omega)
    have a1 := rmn_ti (z := gZ (gSky n k 0)) (c := 21) (by omega) (by omega)
    have a1 : 0 ≤ (rmn 21 (gD (gZ (gSky n k 0)))).toInt ∧ (rmn 21 (gD (gZ (gSky n k 0)))).toInt < 21 := a1
    have a2 := rmn_ti (z := gZ (gZ (gSky n k 0))) (c := 10) (by omega) (by omega)
    have a2 : 0 ≤ (rmn 10 (gD (gZ (gZ (gSky n k 0))))).toInt ∧ (rmn 10 (gD (gZ (gZ (gSky n k 0))))).toInt < 10 := a2
    have e10 : (10 : Int32).toInt = 10 := rfl
    have a3 : (rmn 21 (gD (gZ (gSky n k 0))) - 10).toInt = (rmn 21 (gD (gZ (gSky n k 0)))).toInt - 10 := by rw [ti_sub (by omega) (by omega), e10]
    rw [gSky]
    exact ⟨((i1.air (by omega) (by omega) (by omega)).out (by omega)).fal (by omega) (by omega) (by omega), ((i2.out (by omega)).out (by omega)).out (by omega)⟩
theorem op_sky (hG : GR X M) : OP (d + 12) mX6_sky mX7_sky [] X M := by
  obtain ⟨m, T, h, hN, hR⟩ := id hG
  obtain ⟨q1, q2, q3, q4, q5, q6, q7⟩ := id hN.1
  -- the reference
  have R : ∀ X1, RW X1 0 (gSky (M 25 0) 24) m → (∀ r i, ¬ nowX r i → X1 r i = X r i) → X1 16 0 = X 16 0 → Cl UM (d + 12) mX7_sky [aR 24 0] M (fun v2 M1 => v2 = some (aI (gSkS (M 25 0) 24)) ∧ GR X1 M1) := by
    intro X1 hRW hF h16
    have L : ∀ q k, k + q = 24 → Gq (Kp (d + 12) mX7_sky UM (fun v2 M1 => v2 = some (aI (gSkS (M 25 0) 24)) ∧ GR X1 M1)) UM cX7_sky 3 RX7 4 [(0, aR 24 0), (1, aI (gSkS (M 25 0) k)), (2, aI (nI k))] [] (ma M 25 0 (gSky (M 25 0) k)) := by
      intro q
      induction q with
      | zero =>
        intro k hk
        have hk : k = 24 := by omega
        subst hk
        refine okX7_sky_4 (I4 := fun _ _ _ => False) _ _ _ (fun _ _ _ q => q.elim) ?_
        unfold wpX7_sky_4
        obtain ⟨s1, s2⟩ := q3.gS q2 24 (by omega)
        exact ⟨fun _ => ⟨rfl, GR.now hN hR hF h16 hRW s2 s1 (fun j hj => gSky_o (by omega) (by omega) 24 (by omega))⟩, fun c => absurd (by decide) c⟩
      | succ q ih =>
        intro k hk
        refine okX7_sky_4 (I4 := fun x1 x2 W => x1 = gSkS (M 25 0) (k + 1) ∧ x2 = nI (k + 1) ∧ W = ma M 25 0 (gSky (M 25 0) (k + 1))) _ _ _ (fun x1 x2 W z => ?_) ?_
        · obtain ⟨rfl, rfl, hW⟩ := z
          rw [hW]
          exact ih (k + 1) (by omega)
        · unfold wpX7_sky_4
          refine ⟨fun c => absurd c (nI_ge (b := 24) (by omega) (by omega)), fun _ => ?_⟩
          refine r_draw ⟨_, rfl, fun z3 e3 => ⟨11 + k, by rw [show (11 : Int32) = nI 11 from rfl, nI_add], by omega, fun V5 e5 => ?_⟩⟩
          have e5 : V5 = ma M 25 0 (upd (upd (gSky (M 25 0) k) 0 (gZ (gSky (M 25 0) k 0))) (11 + k) (z3 - 10)) := by
            rw [e5]; simp only [mu_eq, ma_same, ma_ma]
          subst e5
          refine r_draw ⟨_, rfl, fun z8 e8 => ⟨35 + k, by rw [show (35 : Int32) = nI 35 from rfl, nI_add], by omega, fun V10 e10 z11 e11 => ?_⟩⟩
          simp only [mu_eq, ma_same, ma_ma, up_s] at e3 e8 e10 e11
          rw [up_n (show ¬ 0 = 11 + k by omega), up_s] at e8 e10
          rw [up_cm _ _ _ (show ¬ 0 = 11 + k by omega), up_up] at e10
          refine ⟨?_, nI_1 k, ?_⟩
          · rw [e11, e10, ma_same, up_s, e8, gSkS]; rfl
          · rw [e10, gSky, e8, e3]
            rw [up_cm _ _ _ (show ¬ 0 = 11 + k by omega)]
            rfl
    refine clX7_sky (I4 := fun x1 x2 W => x1 = 0 ∧ x2 = nI 0 ∧ W = M) M (fun x1 x2 W z => ?_) ?_
    · obtain ⟨rfl, rfl, hW⟩ := z
      rw [hW]
      have := L 24 0 (by omega)
      rw [gSky, ma_eta] at this
      exact this
    · unfold wpX7_sky_0
      exact ⟨rfl, rfl, rfl⟩
  have L : ∀ q k, k + q = 24 → ∀ V1, RW V1 0 (gSky (M 25 0) k) m → (∀ r i, ¬ nowX r i → V1 r i = X r i) → V1 16 0 = X 16 0 → Gq (Kp (d + 12) mX6_sky UX (fun v X1 => ∃ a0, v = some (aI a0) ∧ Cl UM (d + 12) mX7_sky [aR 24 0] M (fun v2 M1 => v2 = some (aI a0) ∧ GR X1 M1))) UX cX6_sky 3 RX6 4 [(0, aR 0 0), (1, aI (gSkS (M 25 0) k)), (2, aI (nI k))] [] V1 := by
    intro q
    induction q with
    | zero =>
      intro k hk V1 hV hF h16
      have hk : k = 24 := by omega
      subst hk
      refine okX6_sky_4 (I4 := fun _ _ _ => False) _ _ V1 (fun _ _ _ q => q.elim) ?_
      unfold wpX6_sky_4
      exact ⟨fun _ => ⟨_, rfl, R V1 hV hF h16⟩, fun c => absurd (by decide) c⟩
    | succ q ih =>
      intro k hk V1 hV hF h16
      refine okX6_sky_4 (I4 := fun x1 x2 W => x1 = gSkS (M 25 0) (k + 1) ∧ x2 = nI (k + 1) ∧ RW W 0 (gSky (M 25 0) (k + 1)) m ∧ (∀ r i, ¬ nowX r i → W r i = X r i) ∧ W 16 0 = X 16 0) _ _ V1 (fun x1 x2 W z => ?_) ?_
      · obtain ⟨rfl, rfl, z1, z2, z3⟩ := z
        exact ih (k + 1) (by omega) W z1 z2 z3
      · unfold wpX6_sky_4
        refine ⟨fun c => absurd c (nI_ge (b := 24) (by omega) (by omega)), fun _ => ?_⟩
        have e9 : V1 2 0 9 = gSky (M 25 0) k 0 := hV.sc 0 (by omega)
        refine x_draw (by omega) ⟨_, rfl, fun z3 e3 => ⟨k, rfl, by omega, fun V5 e5 => ?_⟩⟩
        refine x_draw (by omega) ⟨_, rfl, fun z8 e8 V9 eV9 z10 e10 => ?_⟩
        rw [e9] at e3 e5
        have h59 : V5 2 0 9 = gZ (gSky (M 25 0) k 0) := by rw [e5, mu_o (by decide), mu_sk]
        rw [h59] at e8 eV9
        have hR5 : RW V5 0 (upd (upd (gSky (M 25 0) k) 0 (gZ (gSky (M 25 0) k 0))) (11 + k) (z3 - 10)) m := by
          rw [e5]
          exact (hV.set 0 (by omega) (by omega) _).set14 (by omega) _
        have hR9 : RW V9 0 (upd (upd (upd (upd (gSky (M 25 0) k) 0 (gZ (gSky (M 25 0) k 0))) (11 + k) (z3 - 10)) 0 (gZ (gZ (gSky (M 25 0) k 0)))) (35 + k) z8) m := by
          rw [eV9]
          exact (hR5.set 0 (by omega) (by omega) _).set15 (by omega) _
        refine ⟨?_, nI_1 k, ?_, fun r i q => ?_, ?_⟩
        · rw [e10, eV9, mu_sk, e8, gSkS]; rfl
        · rw [up_cm _ _ _ (show ¬ 0 = 11 + k by omega), up_up, e8, e3] at hR9
          rw [gSky, up_cm _ _ _ (show ¬ 0 = 11 + k by omega)]
          exact hR9
        · rw [eV9, mu_now (Or.inr (Or.inr (Or.inl ⟨rfl, rfl⟩))) r i q, mu_now (Or.inl ⟨rfl, rfl⟩) r i q, e5, mu_now (Or.inr (Or.inl ⟨rfl, rfl⟩)) r i q, mu_now (Or.inl ⟨rfl, rfl⟩) r i q]
          exact hF r i q
        · rw [eV9, mu_o (by decide), mu_o (by decide), e5, mu_o (by decide), mu_o (by decide)]
          exact h16
  refine clX6_sky (I4 := fun x1 x2 W => x1 = 0 ∧ x2 = nI 0 ∧ W = X) X (fun x1 x2 W z => ?_) ?_
  · obtain ⟨rfl, rfl, hW⟩ := z
    rw [hW]
    exact L 24 0 (by omega) X q1 (fun _ _ _ => rfl) rfl
  · unfold wpX6_sky_0
    exact ⟨rfl, rfl, rfl⟩
end OPS7
