/-! ===== the class: an hour whole, hours ===== -/
def WS (V : Mem) (w : Nat) (n : NF) (m T h : Nat) (B : Int) : Prop := RW V w n m ∧ WI n m B ∧ sky n ∧ LawI n T ∧ LW V n T ∧ CW V w n T ∧ n 2 = nI h
section CLS5
variable {d : Nat} {V : Mem} {P : Option AV → Mem → Prop} {w m h T i j k r t u q : Nat} {n : NF} {a b c x y z : Int32} {B : Int}
theorem WS.hour (hS : WS V w n m T h B) (hB : B ≤ 800000000) {V1 : Mem} (hR : RW V1 w (gHour n T h m).1 m) (hF : FR w V V1) : WS V1 w (gHour n T h m).1 m T (h + 1) (B + 738) := by
  obtain ⟨h1, h2, h3, h4, h5, h6, h7⟩ := hS
  have hm := h1.2.1
  refine ⟨hR, h2.hour h3 hm hB, h3.hour, h4.cong (gHour_o (not_hot (by omega) (by omega))) (fun j hj => gHour_o (not_hot (by omega) (by omega))), (h5.fr hF).cong (fun j hj => gHour_o (not_hot (by omega) (by omega))), (h6.fr hF).cong (fun j hj => gHour_o (not_hot (by omega) (by omega))), gHour_2 h7⟩
theorem gEnd_no {g : NF} {a : Int32} (h4 : 0 ≤ (g 4).toInt) (ha : ¬ 0 < a) (ha2 : -20 ≤ a.toInt) : gEnd g a = upd g 2 (g 2 + 1) := by
  have a1 : ¬ 0 < a.toInt := fun q => ha (ti_lt.mpr (by rw [ti0]; exact q))
  have e : wi (5 * a) 0 (g 4) = 0 := by
    have e5 := five_rng (a := a) ha2 (by omega)
    unfold wi
    by_cases h0 : 5 * a < 0
    · rw [if_pos h0]
    · rw [if_neg h0, if_neg (fun q => by rw [ti_lt] at q; omega)]
      apply ti_eq.mpr
      rw [ti_lt, ti0] at h0
      rw [ti0]; omega
  unfold gEnd
  rw [e, Int32.sub_zero, up_id, Int32.add_zero, up_id]
theorem x_passHour (hw : w < 3) (hS : WS V w n m T h B) (hB : B ≤ 800000000) (hl : h < 2 ^ 30) (hp : ∀ V1, WS V1 w (gHour n T h m).1 m T (h + 1) (B + 738) → FR w V V1 → P (some (aI (gHour n T h m).2)) V1) : Cl UX (d + 5) mX5_passHour [aR 2 w] V P := by
  obtain ⟨h1, h2, h3, h4, h5, h6, h7⟩ := id hS
  have hm := h1.2.1
  have hsk := h3 (h % 24) (by omega)
  have E2 : ∀ f : Int32, f = n (35 + h % 24) → ∀ V1 : Mem, RW V1 w (gH1 n h m) m → FR w V V1 → wpX5_passHour_49 (Cl UX (d + 4)) w (n (11 + h % 24)) f V1 P := by
    intro f ef V1 hV hF
    unfold wpX5_passHour_49
    have hI1 : WI (gH1 n h m) m (B + 738) := h2.falls hB hm hsk.2.1 hsk.2.2
    refine x_letSlide hw hV hI1 (by omega) (fun V2 hV2 hF2 => ⟨_, rfl, ?_⟩)
    have hI2 : WI (gH2 n h m).1 m (B + 738) := hI1.slideL (by omega) m (Nat.le_refl m)
    have hO : ∀ j, ¬ j = 4 → ¬ j = 5 → ¬ j = 6 → ¬ j = 7 → (j < 63 ∨ 107 ≤ j) → (gH2 n h m).1 j = n j := fun j q4 q5 q6 q7 q8 => gH2_o q4 q5 q6 q7 (fun r hr => by omega)
    have h107 : ∀ j, 107 ≤ j → (gH2 n h m).1 j = n j := fun j hj => hO j (by omega) (by omega) (by omega) (by omega) (by omega)
    have hF12 := hF.tr hF2
    refine x_letMelt (T := T) (h := h) hw hV2 hI2 (by omega) (h3.eq (fun j q1 q2 => hO j (by omega) (by omega) (by omega) (by omega) (by omega))) (h4.cong (hO 10 (by omega) (by omega) (by omega) (by omega) (by omega)) h107) ((h5.fr hF12).cong h107) ((h6.fr hF12).cong h107) ((hO 2 (by omega) (by omega) (by omega) (by omega) (by omega)).trans h7) (by omega) (fun V3 hV3 hF3 => ⟨rfl, ?_⟩)
    have hF13 := hF12.tr hF3
    have hI3 : WI (gMeltL (gH2 n h m).1 T h m) m (B + 738) := hI2.meltL (by omega) m (Nat.le_refl m)
    have hV3 : RW V3 w (gMeltL (gH2 n h m).1 T h m) m := hV3
    have eG : (gHour n T h m).1 = gEnd (gMeltL (gH2 n h m).1 T h m) (n (11 + h % 24)) := rfl
    generalize gMeltL (gH2 n h m).1 T h m = g at hV3 hI3 eG
    refine ⟨fun c => ?_, fun c z ez V5 e5 V6 e6 => ?_⟩
    · unfold wpX5_passHour_96
      intro V4 e4
      refine hp V4 (hS.hour hB ?_ ?_) ?_
      · rw [eG, gEnd_no hI3.2.1 (by rw [ti_lt]; rw [ti_le] at c; omega) (by omega), e4, show V3 2 w 8 = g 2 from hV3.sc 2 (by omega)]
        exact hV3.set 2 (by omega) (by omega) _
      · rw [e4]; exact hF13.mu2
      · rw [e4]; exact hF13.mu2
    · unfold wpX5_passHour_96
      intro V4 e4
      have ca : 0 < (n (11 + h % 24)).toInt := by rw [ti_le, ti0] at c; omega
      have e10 : V3 2 w 10 = g 4 := hV3.sc 4 (by omega)
      have e11 : V3 2 w 11 = g 5 := hV3.sc 5 (by omega)
      have e8 : V3 2 w 8 = g 2 := hV3.sc 2 (by omega)
      have h4p := hI3.2.1
      have f5 := five_rng (a := n (11 + h % 24)) (by omega) (by omega)
      have ezw : z = wi (5 * n (11 + h % 24)) 0 (g 4) := by
        rw [ez, e10]
        unfold wi
        rw [if_neg (show ¬ 5 * n (11 + h % 24) < 0 from fun q => by rw [ti_lt, ti0] at q; omega)]
        by_cases q : g 4 < 5 * n (11 + h % 24)
        · rw [if_pos q, if_neg (fun q2 => by rw [ti_lt] at q q2; omega)]
        · rw [if_neg q]
          by_cases q2 : 5 * n (11 + h % 24) < g 4
          · rw [if_pos q2]
          · rw [if_neg q2]
            apply ti_eq.mpr
            rw [ti_lt] at q q2
            omega
      have eV : V4 = mu (mu (mu V3 2 w 10 (g 4 - z)) 2 w 11 (g 5 + z)) 2 w 8 (g 2 + 1) := by
        rw [e4, e6, e5, e10, mu_sn (show ¬ 11 = 10 by omega), e11, mu_sn (show ¬ 8 = 11 by omega), mu_sn (show ¬ 8 = 10 by omega), e8]
      refine hp V4 (hS.hour hB ?_ ?_) ?_
      · rw [eG, eV, ezw]
        exact ((hV3.set 4 (by omega) (by omega) _).set 5 (by omega) (by omega) _).set 2 (by omega) (by omega) _
      · rw [eV]; exact hF13.mu2.mu2.mu2
      · rw [eV]; exact hF13.mu2.mu2.mu2
  refine clX5_passHour w hw V ?_
  unfold wpX5_passHour_0
  refine x_hod hw ((h1.sc 2 (by omega)).trans h7) (by omega) ⟨_, rfl, h % 24, rfl, by omega, fun z ez => ?_⟩
  refine x_hod hw ((h1.sc 2 (by omega)).trans h7) (by omega) ⟨_, rfl, h % 24, rfl, by omega, fun f ef => ?_⟩
  rw [h1.air (h % 24) (by omega)] at ez
  rw [h1.fal (h % 24) (by omega)] at ef
  subst ez
  subst ef
  refine ⟨fun c1 => ⟨fun c2 => ?_, fun c2 => ?_⟩, fun c1 => ?_⟩
  · refine x_letHail (a := n (11 + h % 24)) hw h1 (by rw [ti_lt]; rw [ti_le] at c1; omega) (by rw [ti_lt]; rw [ti_le] at c2; omega) (fun V1 hV hF => ⟨rfl, E2 _ rfl V1 hV hF⟩)
  · refine x_letSnow (a := n (11 + h % 24)) hw h1 h2 hB (by rw [ti_lt]; rw [ti_le] at c1; omega) (by rw [ti_lt]; rw [ti_le] at c2; omega) hsk.2 (fun V1 hV hF => ⟨rfl, E2 _ rfl V1 hV hF⟩)
  · refine x_letRain (a := n (11 + h % 24)) hw h1 h2 hB (by rw [ti_lt]; rw [ti_le] at c1; omega) hsk.2 (fun V1 hV hF => ⟨rfl, E2 _ rfl V1 hV hF⟩)
theorem x_passHours (hw : w < 3) (hS : WS V w n m T h B) (hB : B ≤ 500000000) (hl : h < 2 ^ 29) (hk : k ≤ 1000) (ea : a = nI k) (hp : ∀ V1, WS V1 w (gHours n T h m k).1 m T (h + k) (B + 738 * k) → FR w V V1 → P (some (aI (gHours n T h m k).2)) V1) : Cl UX (d + 6) mX5_passHours [aR 2 w, aI a] V P := by
  have L : ∀ q j, j + q = k → ∀ V1, WS V1 w (gHours n T h m j).1 m T (h + j) (B + 738 * j) → FR w V V1 → Gq (Kp (d + 6) mX5_passHours UX P) UX cX5_passHours 4 RX5 4 [(0, aR 2 w), (1, aI a), (2, aI (gHours n T h m j).2), (3, aI (nI j))] [] V1 := by
    intro q
    induction q with
    | zero =>
      intro j hj V1 hV hF
      have hj : j = k := by omega
      subst hj
      refine okX5_passHours_4 (I4 := fun _ _ _ _ => False) w hw _ _ _ _ (fun _ _ _ _ q => q.elim) ?_
      unfold wpX5_passHours_4
      exact ⟨fun _ => hp V1 hV hF, fun c => absurd (by rw [ea]; exact nI_le (Nat.le_refl j) (by omega)) c⟩
    | succ q ih =>
      intro j hj V1 hV hF
      refine okX5_passHours_4 (I4 := fun x1 x2 x3 W => x1 = a ∧ x2 = (gHours n T h m (j + 1)).2 ∧ x3 = nI (j + 1) ∧ WS W w (gHours n T h m (j + 1)).1 m T (h + (j + 1)) (B + 738 * ((j + 1 : Nat) : Int)) ∧ FR w V W) w hw _ _ _ _ (fun x1 x2 x3 W z => ?_) ?_
      · obtain ⟨rfl, rfl, rfl, z1, z2⟩ := z
        exact ih (j + 1) (by omega) W z1 z2
      · unfold wpX5_passHours_4
        refine ⟨fun c => absurd (by rw [ea] at c; exact c) (nI_ge (by omega) (by omega)), fun _ => ?_⟩
        refine x_passHour hw hV (by omega) (by omega) (fun V2 hV2 hF2 => ⟨_, rfl, fun z ez => ⟨rfl, ez, nI_1 j, ?_, hF.tr hF2⟩⟩)
        have e : B + 738 * ((j + 1 : Nat) : Int) = B + 738 * (j : Int) + 738 := by omega
        rw [e]
        exact hV2
  refine clX5_passHours (I4 := fun x1 x2 x3 W => x1 = a ∧ x2 = 0 ∧ x3 = nI 0 ∧ W = V) w hw a V (fun x1 x2 x3 W z => ?_) ⟨rfl, rfl, rfl, rfl⟩
  obtain ⟨rfl, rfl, rfl, hW⟩ := z
  rw [hW]
  have e : B + 738 * ((0 : Nat) : Int) = B := by omega
  refine L k 0 (by omega) V ?_ FR.rf
  rw [e]
  exact hS
end CLS5
