/-! ===== the class: melting, an hour ===== -/
theorem LW.fr {V V1 : Mem} {w T : Nat} {n : NF} (h : LW V n T) (hF : FR w V V1) : LW V1 n T := by
  intro t ht
  have a9 : V1 9 0 = V 9 0 := hF 9 0 (by unfold foot; omega)
  have a7 : V1 7 0 = V 7 0 := hF 7 0 (by unfold foot; omega)
  have a8 : V1 8 0 = V 8 0 := hF 8 0 (by unfold foot; omega)
  have a11 : V1 11 t = V 11 t := hF 11 t (by unfold foot; omega)
  rw [a9, a7, a8, a11]
  exact h t ht
theorem CW.fr {V V1 : Mem} {w w1 T : Nat} {n : NF} (h : CW V w1 n T) (hF : FR w V V1) : CW V1 w1 n T := by
  intro k hk
  rw [hF 16 w1 (by unfold foot; omega)]
  exact h k hk
theorem gCt_cong {n n1 : NF} {key : Int32} : ∀ T, (∀ t, t < T → n1 (107 + 2 * t) = n (107 + 2 * t)) → gCt n1 key T = gCt n key T
  | 0, _ => rfl
  | T + 1, h => by rw [gCt, gCt, h T (by omega), gCt_cong T (fun t ht => h t (by omega))]
theorem lawL_cong {n n1 : NF} {t : Nat} (h : n1 (107 + 2 * t) = n (107 + 2 * t)) : lawL n1 t = lawL n t := by
  unfold lawL; rw [h]
theorem LW.cong {V : Mem} {n n1 : NF} {T : Nat} (h : LW V n T) (e : ∀ j, 107 ≤ j → n1 j = n j) : LW V n1 T := by
  intro t ht
  obtain ⟨a, b, c, d⟩ := h t ht
  rw [lawL_cong (e (107 + 2 * t) (by omega)), e (107 + 2 * t) (by omega), e (108 + 2 * t) (by omega)]
  exact ⟨a, b, c, fun k hk => by rw [e (135 + 96 * t + k) (by omega)]; exact d k hk⟩
theorem CW.cong {V : Mem} {w : Nat} {n n1 : NF} {T : Nat} (h : CW V w n T) (e : ∀ j, 107 ≤ j → n1 j = n j) : CW V w n1 T := by
  intro k hk
  rw [gCt_cong T (fun t _ => e _ (by omega))]
  exact h k hk
theorem gLaw_cong {n n1 : NF} {T k : Nat} {a b c e : Int32} (h : ∀ j, 107 ≤ j → n1 j = n j) : gLaw n1 T k a b c e = gLaw n T k a b c e := by
  unfold gLaw
  rw [gCt_cong T (fun t _ => h _ (by omega))]
  unfold lawV
  rw [lawL_cong (h _ (by omega)), show lawC n1 (gCt n (nI k) T).toNatClampNeg = lawC n (gCt n (nI k) T).toNatClampNeg from funext fun q => h _ (by omega)]
theorem gO_cong {n n1 : NF} {T h r : Nat} (e : ∀ j, 107 ≤ j → n1 j = n j) (e3 : n1 3 = n 3) (ea : n1 (11 + h % 24) = n (11 + h % 24)) (eh : n1 (61 + 6 * r) = n (61 + 6 * r)) : gO n1 T h r = gO n T h r := by
  unfold gO
  have : gW n1 h r = gW n h r := by unfold gW; rw [ea, eh]
  rw [gLaw_cong e, this, e3]
theorem clamp_eq {g s : Int32} (hs : 0 ≤ s.toInt) : (if 0 < (if s < g then s else g) then (if s < g then s else g) else 0) = wi g 0 s := by
  unfold wi
  by_cases h1 : s < g
  · have h1' := ti_lt.mp h1
    rw [if_pos h1, if_neg (show ¬ g < 0 from fun q => by rw [ti_lt, ti0] at q; omega)]
    by_cases h2 : 0 < s
    · rw [if_pos h2]
    · rw [if_neg h2]
      apply ti_eq.mpr
      rw [ti_lt, ti0] at h2
      rw [ti0]; omega
  · rw [if_neg h1]
    have h1' : ¬ s.toInt < g.toInt := fun q => h1 (ti_lt.mpr q)
    by_cases h2 : 0 < g
    · rw [if_pos h2, if_neg (fun q => by rw [ti_lt, ti0] at q; rw [ti_lt, ti0] at h2; omega)]
    · rw [if_neg h2]
      by_cases h3 : g < 0
      · rw [if_pos h3]
      · rw [if_neg h3]
        apply ti_eq.mpr
        rw [ti_lt, ti0] at h2 h3
        rw [ti0]; omega
theorem melt_plain {s z sn : Int32} (h1 : 1 ≤ s.toInt) (h2 : s.toInt ≤ 9) (h3 : -29 ≤ z.toInt) (h4 : z.toInt ≤ 29) (h5 : 0 ≤ sn.toInt) : wi (s * z) 0 sn = wi (s * wi z 0 99) 0 sn := by
  have t99 : (99 : Int32).toInt = 99 := rfl
  by_cases hz : z < 0
  · have e1 : wi z 0 99 = 0 := by unfold wi; rw [if_pos hz]
    rw [e1, Int32.mul_zero]
    have hz' := ti_lt.mp hz
    rw [ti0] at hz'
    have e : (s * z).toInt = s.toInt * z.toInt := by
      have a : s.toInt * z.toInt ≤ 0 := Int.mul_nonpos_of_nonneg_of_nonpos (by omega) (by omega)
      have b : -(9 * 29) ≤ s.toInt * z.toInt := by
        have : s.toInt * (-z.toInt) ≤ 9 * 29 := Int.mul_le_mul h2 (by omega) (by omega) (by omega)
        rw [Int.mul_neg] at this
        omega
      exact ti_mul (by omega) (by omega)
    have hneg : s.toInt * z.toInt < 0 := Int.mul_neg_of_pos_of_neg (by omega) (by omega)
    unfold wi
    rw [if_pos (ti_lt.mpr (by rw [e, ti0]; exact hneg)), if_neg (by decide), if_neg (fun q => by rw [ti_lt, ti0] at q; omega)]
  · have hz' : ¬ z.toInt < 0 := fun q => hz (ti_lt.mpr (by rw [ti0]; exact q))
    have e1 : wi z 0 99 = z := by
      unfold wi; rw [if_neg hz, if_neg (fun q => by rw [ti_lt, t99] at q; omega)]
    rw [e1]
theorem gMelt0 {n : NF} {T h r : Nat} (hr : rok n r) (h0 : gM n T h r = 0) : gMelt1 n T h r = n := by
  unfold rok at hr
  unfold gMelt1
  rw [h0]
  have e1 : n (64 + 6 * r) - 0 = n (64 + 6 * r) := Int32.sub_zero _
  rw [e1, up_id]
  split
  · rw [Int32.add_zero, up_id]
  · unfold gRain
    have e2 : wi (n (63 + 6 * r) + 0) 0 (n (62 + 6 * r)) = n (63 + 6 * r) := by
      rw [Int32.add_zero]
      unfold wi
      rw [if_neg (fun q => by rw [ti_lt, ti0] at q; omega), if_neg (fun q => by rw [ti_lt] at q; omega)]
    rw [e2, up_id, Int32.add_zero, Int32.sub_self, Int32.add_zero, up_id]
section CLS4
variable {d : Nat} {V : Mem} {P : Option AV → Mem → Prop}
theorem x_warmth {w i m h : Nat} {n : NF} (hw : w < 3) (hR : RW V w n m) (hi : i < m) (e : n 2 = nI h) (hl : h < 2 ^ 31) (hp : P (some (aI (gW n h i))) V) : Cl UX (d + 2) mX5_warmth [aR 2 w, aR 3 (8 * w + i)] V P := by
  have hm := hR.2.1
  refine clX5_warmth w (8 * w + i) hw (by omega) V ?_
  unfold wpX5_warmth_0
  refine x_hod hw ((hR.sc 2 (by omega)).trans e) hl ⟨_, rfl, h % 24, rfl, by omega, ?_⟩
  rw [hR.air (h % 24) (by omega), hR.rf hi (j := 2) (by omega), show 59 + 6 * i + 2 = 61 + 6 * i by omega]
  exact hp
theorem count_cases {w : Nat} {n : NF} {T k : Nat} (hI : LawI n T) (hk : k < 3) (hC : V 16 w k = if gCt n (nI k) T < 0 then -1000000005 else gCt n (nI k) T) :
    (gCt n (nI k) T < 0 ∧ V 16 w k = -1000000005) ∨ ∃ u, u < T ∧ gCt n (nI k) T = nI u ∧ V 16 w k = nI u ∧ ¬ V 16 w k = -1000000005 ∧ lawL n u ≤ 96 ∧ vdep (nbk k) (lawC n u) (lawL n u) = some 1 := by
  rcases gCt_spec hI.2.2 hk T (Nat.le_refl T) with q | ⟨u, L, u1, u2, u3, u4, u5⟩
  · left
    rw [q, if_pos (by decide)] at hC
    exact ⟨by rw [q]; decide, hC⟩
  · right
    have hT := hI.2.1
    rw [u2, if_neg (nI_pos (by omega))] at hC
    have e := lawL_eq u4 hk u3
    refine ⟨u, u1, u2, hC, ?_, by rw [e]; exact u3, by rw [e]; exact u5⟩
    rw [hC]
    intro q
    have := nI_toInt (n := u) (by omega)
    rw [q, show (-1000000005 : Int32).toInt = -1000000005 from rfl] at this
    omega
theorem x_melts {w i m h T : Nat} {n : NF} {B : Int} (hw : w < 3) (hR : RW V w n m) (hI : WI n m B) (hs : sky n) (hLI : LawI n T) (hL : LW V n T) (hC : CW V w n T) (hi : i < m) (e : n 2 = nI h) (hl : h < 2 ^ 31) (hp : ∀ s : NF, P (some (aI (gM n T h i))) (ma V 12 0 s)) : Cl UX (d + 3) mX5_melts [aR 2 w, aR 3 (8 * w + i)] V P := by
  have hm := hR.2.1
  have hr := hI.1 i hi
  unfold rok at hr
  have e0 := hR.rf hi (j := 0) (by omega)
  have e1 := hR.rf hi (j := 1) (by omega)
  have e5 := hR.rf hi (j := 5) (by omega)
  rw [show 59 + 6 * i + 0 = 59 + 6 * i by omega] at e0
  rw [show 59 + 6 * i + 1 = 60 + 6 * i by omega] at e1
  rw [show 59 + 6 * i + 5 = 64 + 6 * i by omega] at e5
  refine clX5_melts w (8 * w + i) hw (by omega) V ?_
  unfold wpX5_melts_0
  have F : ∀ (W : Mem) (x2 x3 v : Int32), W 3 (8 * w + i) = V 3 (8 * w + i) → wi v 0 (n (64 + 6 * i)) = gPl n T h i → P (some (aI (gM n T h i))) W → wpX5_melts_45 (Cl UX (d + 2)) w (8 * w + i) x2 x3 v W P := by
    intro W x2 x3 v hW hv hq
    unfold wpX5_melts_45
    rw [hW, e0, e5]
    intro z1 ez1 z2 ez2
    have ez : z2 = gPl n T h i := by rw [ez2, ez1, clamp_eq (by omega), hv]
    rw [ez]
    have hpl := gPl_rng (n := n) (T := T) (h := h) (r := i) (by omega)
    unfold gM at hq
    refine ⟨fun c => ?_, fun c z3 ez3 => ?_, fun c => ?_⟩
    · rw [if_neg (by rw [c]; decide), if_pos c] at hq; exact hq
    · rw [if_pos c] at hq
      have t2 : (2 : Int32).toInt = 2 := rfl
      have e2 : (2 * gPl n T h i).toInt = 2 * (gPl n T h i).toInt := by rw [ti_mul (by rw [t2]; omega) (by rw [t2]; omega), t2]
      have : z3 = wi (2 * gPl n T h i) 0 (n (64 + 6 * i)) := by
        rw [ez3]
        unfold wi
        rw [if_neg (show ¬ 2 * gPl n T h i < 0 from fun q => by rw [ti_lt, ti0] at q; omega)]
      rw [this]
      exact hq
    · rw [if_neg c.2, if_neg c.1] at hq; exact hq
  refine x_warmth hw hR hi e hl ⟨_, rfl, fun z ez => ?_⟩
  rcases count_cases hLI (k := 0) (by omega) (hC 0 (by omega)) with ⟨q1, q2⟩ | ⟨u, u1, u2, u3, u4, u5, u6⟩
  · refine ⟨fun c => absurd (ez.trans q2) c, fun _ => ?_⟩
    rw [e1]
    refine F V _ _ _ rfl ?_ ?_
    · unfold gPl gLaw
      rw [if_pos q1]
      have hsk := hs (h % 24) (by omega)
      refine melt_plain (by omega) (by omega) ?_ ?_ (by omega)
      · unfold gW; rw [ti_add (by omega) (by omega)]; omega
      · unfold gW; rw [ti_add (by omega) (by omega)]; omega
    · have := hp (V 12 0)
      rw [ma_eta] at this
      exact this
  · refine ⟨fun _ => ?_, fun c => absurd (ez.symm.trans c) u4⟩
    have hT := hLI.2.1
    rw [e1, e5]
    refine x_give (t := u) (T := T) (nb := 3) (n := n) (ez.trans u3) u1 hT hL u5 (by omega) u6 (fun s => ⟨_, rfl, ?_⟩)
    refine F _ _ _ _ (ma_o (by decide)) ?_ (hp s)
    unfold gPl gLaw
    rw [u2, if_neg (nI_pos (by omega)), nI_clamp (by omega)]
theorem x_owns {w i m h T : Nat} {n : NF} (hw : w < 3) (hR : RW V w n m) (hLI : LawI n T) (hL : LW V n T) (hC : CW V w n T) (hi : i < m) (e : n 2 = nI h) (hl : h < 2 ^ 31) (hp : ∀ s : NF, P (some (aI (gO n T h i))) (ma V 12 0 s)) : Cl UX (d + 3) mX5_owns [aR 2 w, aR 3 (8 * w + i)] V P := by
  have hm := hR.2.1
  refine clX5_owns w (8 * w + i) hw (by omega) V ?_
  unfold wpX5_owns_0
  intro z ez
  unfold gO at hp
  rcases count_cases hLI (k := 1) (by omega) (hC 1 (by omega)) with ⟨q1, q2⟩ | ⟨u, u1, u2, u3, u4, u5, u6⟩
  · refine ⟨fun c => absurd (ez.trans q2) c, fun _ => ?_⟩
    refine x_hod hw ((hR.sc 2 (by omega)).trans e) hl ⟨_, rfl, ?_⟩
    have := hp (V 12 0)
    rw [ma_eta] at this
    unfold gLaw at this
    rw [if_pos q1] at this
    dsimp only
    rw [show V 2 w 7 = n 3 from hR.sc 3 (by omega)]
    refine ⟨fun c2 => ?_, fun c2 => ?_⟩
    · rw [if_pos c2, if_pos rfl] at this; exact this
    · rw [if_neg c2, if_neg (by decide)] at this; exact this
  · refine ⟨fun _ => ?_, fun c => absurd (ez.symm.trans c) u4⟩
    have hT := hLI.2.1
    refine x_hod hw ((hR.sc 2 (by omega)).trans e) hl ⟨_, rfl, ?_⟩
    refine x_warmth hw hR hi e hl ⟨_, rfl, ?_⟩
    refine x_give (t := u) (T := T) (nb := 2) (n := n) (ez.trans u3) u1 hT hL u5 (by omega) u6 (fun s => ⟨_, rfl, ?_⟩)
    have := hp s
    unfold gLaw at this
    rw [u2, if_neg (nI_pos (by omega)), nI_clamp (by omega)] at this
    refine ⟨fun c2 => ?_, fun c2 => ?_⟩
    · rw [if_pos c2] at this; exact this
    · rw [if_neg c2] at this; exact this
theorem x_letMelt {w m h T : Nat} {n : NF} {B : Int} (hw : w < 3) (hR : RW V w n m) (hI : WI n m B) (hB : B ≤ 900000000) (hs : sky n) (hLI : LawI n T) (hL : LW V n T) (hC : CW V w n T) (e : n 2 = nI h) (hl : h < 2 ^ 31) (hp : ∀ V1, RW V1 w (gMeltL n T h m) m → FR w V V1 → P none V1) : Cl UX (d + 4) mX5_letMelt [aR 2 w] V P := by
  have hm := hR.2.1
  have L : ∀ q k, k + q = m → ∀ V1, RW V1 w (gMeltL n T h k) m → FR w V V1 → Gq (Kp (d + 4) mX5_letMelt UX P) UX cX5_letMelt 4 RX5 2 [(0, aR 2 w), (1, aI (nI k))] [] V1 := by
    intro q
    induction q with
    | zero =>
      intro k hk V1 hV hF
      have hk : k = m := by omega
      subst hk
      refine okX5_letMelt_2 (I2 := fun _ _ => False) w hw _ _ (fun _ _ q => q.elim) ?_
      unfold wpX5_letMelt_2
      rw [hV.many]
      exact ⟨fun _ => hp V1 hV hF, fun c => absurd (nI_le (Nat.le_refl k) (by omega)) c⟩
    | succ q ih =>
      intro k hk V1 hV hF
      refine okX5_letMelt_2 (I2 := fun x1 W => x1 = nI (k + 1) ∧ RW W w (gMeltL n T h (k + 1)) m ∧ FR w V W) w hw _ _ (fun x1 W z => ?_) ?_
      · obtain ⟨rfl, z1, z2⟩ := z
        exact ih (k + 1) (by omega) W z1 z2
      · unfold wpX5_letMelt_2
        rw [hV.many]
        refine ⟨fun c => absurd c (nI_ge (by omega) (by omega)), fun _ => ⟨k, rfl, by omega, ?_⟩⟩
        have hIk := WI.meltL (T := T) (h := h) hI hB k (by omega)
        have hO : ∀ j, ¬ j = 5 → ¬ j = 7 → (j < 63 ∨ 107 ≤ j) → gMeltL n T h k j = n j := fun j q5 q7 q6 => gMeltL_o q5 q7 k (fun r hr => by omega)
        have hLIk : LawI (gMeltL n T h k) T := hLI.cong (hO 10 (by omega) (by omega) (by omega)) (fun j hj => hO j (by omega) (by omega) (by omega))
        have hLk : LW V1 (gMeltL n T h k) T := (hL.fr hF).cong (fun j hj => hO j (by omega) (by omega) (by omega))
        have hCk : CW V1 w (gMeltL n T h k) T := (hC.fr hF).cong (fun j hj => hO j (by omega) (by omega) (by omega))
        have hsk : sky (gMeltL n T h k) := hs.eq (fun j h1 h2 => hO j (by omega) (by omega) (by omega))
        have h2k : gMeltL n T h k 2 = nI h := (hO 2 (by omega) (by omega) (by omega)).trans e
        have hg107 : ∀ j, 107 ≤ j → gMeltL n T h k j = n j := fun j hj => hO j (by omega) (by omega) (by omega)
        rw [gMeltL]
        generalize gMeltL n T h k = g at hV hIk hLIk hLk hCk hsk h2k hg107 ⊢
        have hr := hIk.1 k (by omega)
        have hr' := hr
        unfold rok at hr'
        have e5 := hV.rf (i := k) (by omega) (j := 5) (by omega)
        rw [show 59 + 6 * k + 5 = 64 + 6 * k by omega] at e5
        have hM := gM_rng (n := g) (T := T) (h := h) (r := k) (by omega)
        rw [e5]
        -- one turn, with what melts
        have F : ∀ W : Mem, RW W w g m → FR w V W → wpX5_letMelt_33 (Cl UX (d + 3)) (fun x1 W => x1 = nI (k + 1) ∧ RW W w (gMelt1 g T h k) m ∧ FR w V W) w (nI k) (8 * w + k) (gM g T h k) W P := by
          intro W hW hFW
          have e5 := hW.rf (i := k) (by omega) (j := 5) (by omega)
          rw [show 59 + 6 * k + 5 = 64 + 6 * k by omega] at e5
          unfold wpX5_letMelt_33
          intro V2 e2
          rw [e5] at e2
          have hV2 : RW V2 w (upd g (64 + 6 * k) (g (64 + 6 * k) - gM g T h k)) m := by
            have := hW.roof (i := k) (by omega) (j := 5) (by omega) (g (64 + 6 * k) - gM g T h k)
            rw [show 59 + 6 * k + 5 = 64 + 6 * k by omega] at this
            rw [e2]
            exact this
          have hF2 : FR w V V2 := by rw [e2]; exact hFW.mu3 (by omega)
          have n5 : upd g (64 + 6 * k) (g (64 + 6 * k) - gM g T h k) 5 = g 5 := up_n (by omega)
          -- to the street
          have E : ∀ V3 : Mem, RW V3 w (upd g (64 + 6 * k) (g (64 + 6 * k) - gM g T h k)) m → FR w V V3 → (gO g T h k = 0 ∨ gM g T h k = 0) → wpX5_letMelt_73 (Cl UX (d + 3)) (fun x1 W => x1 = nI (k + 1) ∧ RW W w (gMelt1 g T h k) m ∧ FR w V W) w (nI k) (8 * w + k) (gM g T h k) V3 P := by
            intro V3 hV3 hF3 hq
            unfold wpX5_letMelt_73
            refine fun V4 e4 => ⟨nI_1 k, ?_, by rw [e4]; exact hF3.mu2⟩
            rw [e4, show V3 2 w 11 = g 5 from (hV3.sc 5 (by omega)).trans n5]
            have h1 := hV3.set 5 (by omega) (by omega) (g 5 + gM g T h k)
            rcases hq with hq | hq
            · rw [gMelt1, if_pos hq]; exact h1
            · rw [gMelt0 hr hq]
              rw [hq, Int32.sub_zero, up_id, Int32.add_zero, up_id] at h1
              rw [hq, Int32.add_zero]
              exact h1
          refine ⟨fun c => E V2 hV2 hF2 (Or.inr (ti_eq.mpr (by rw [ti_le, ti0] at c; rw [ti0]; omega))), fun c => ?_⟩
          have hgo : gO (upd g (64 + 6 * k) (g (64 + 6 * k) - gM g T h k)) T h k = gO g T h k := gO_cong (fun j hj => up_n (by omega)) (up_n (by omega)) (up_n (by omega)) (up_n (by omega))
          refine x_owns (T := T) (h := h) hw hV2 (hLIk.cong (up_n (by omega)) (fun j hj => up_n (by omega))) ((hL.fr hF2).cong (fun j hj => (up_n (by omega)).trans (hg107 j hj))) ((hC.fr hF2).cong (fun j hj => (up_n (by omega)).trans (hg107 j hj))) (by omega) ((up_n (by omega)).trans h2k) hl (fun s => ⟨_, rfl, ?_⟩)
          rw [hgo]
          refine ⟨fun c2 => E _ hV2.stk hF2.st (Or.inl c2), fun c2 => ?_⟩
          have h0 : WI (upd g (64 + 6 * k) (g (64 + 6 * k) - gM g T h k)) m (B - (gM g T h k).toInt) := by
            have e1 : (g (64 + 6 * k) - gM g T h k).toInt = (g (64 + 6 * k)).toInt - (gM g T h k).toInt := ti_sub (by omega) (by omega)
            exact (hIk.less (by omega) (by omega) (by omega)).mono (by omega)
          have hrn := (hV2.stk (s := s)).rain h0 (i := k) (x := gM g T h k) (by omega) (by omega) (by omega)
          refine x_takeW (by omega) ⟨_, rfl, fun V5 e6 => ⟨nI_1 k, ?_, ?_⟩⟩
          · rw [e6, hrn.2, hrn.1, gMelt1, if_neg c2, show ma V2 12 0 s 2 w 13 = upd g (64 + 6 * k) (g (64 + 6 * k) - gM g T h k) 7 from (hV2.stk (s := s)).sc 7 (by omega)]
            exact (hV2.stk (s := s)).rained (by omega)
          · rw [e6]; exact ((hF2.st).mu3 (by omega)).mu2
        refine ⟨fun c => ?_, fun c => ?_⟩
        · have h0 : gM g T h k = 0 := ti_eq.mpr (by rw [ti_le, ti0] at c; rw [ti0]; omega)
          have := F V1 hV hF
          rw [h0] at this
          exact this
        · refine x_melts (T := T) (h := h) hw hV hIk hsk hLIk hLk hCk (by omega) h2k hl (fun s => ⟨_, rfl, F _ hV.stk hF.st⟩)
  refine clX5_letMelt (I2 := fun x1 W => x1 = nI 0 ∧ W = V) w hw V (fun x1 W z => ?_) ⟨rfl, rfl⟩
  obtain ⟨rfl, hW⟩ := z
  rw [hW]
  exact L m 0 (by omega) V hR FR.rf
end CLS4
