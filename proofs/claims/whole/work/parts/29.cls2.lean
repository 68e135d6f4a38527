/-! ===== the class: what falls, what slides ===== -/
section CLS2
variable {d : Nat} {V : Mem} {P : Option AV → Mem → Prop}
theorem x_takeW {i : Nat} {x : Int32} (hi : i < 29) (h : P (some (aI (if 0 < V 3 i 4 + x - V 3 i 3 then V 3 i 4 + x - V 3 i 3 else 0))) (mu V 3 i 4 (V 3 i 4 + (x - (if 0 < V 3 i 4 + x - V 3 i 3 then V 3 i 4 + x - V 3 i 3 else 0))))) : Cl UX (d + 1) mX2_takeWater [aR 3 i, aI x] V P := by
  refine clX2_takeWater i hi x V ?_
  unfold wpX2_takeWater_0
  intro z ez V1 e1
  rw [e1, ez]
  exact h
theorem x_takeS {i : Nat} {x : Int32} (hi : i < 29) (h : P (some (aI (if 0 < V 3 i 5 + x - 9999 then V 3 i 5 + x - 9999 else 0))) (mu V 3 i 5 (V 3 i 5 + (x - (if 0 < V 3 i 5 + x - 9999 then V 3 i 5 + x - 9999 else 0))))) : Cl UX (d + 1) mX2_takeSnow [aR 3 i, aI x] V P := by
  refine clX2_takeSnow i hi x V ?_
  unfold wpX2_takeSnow_0
  intro z ez V1 e1
  rw [e1, ez]
  exact h
theorem und2 {k : Int32} : undI k 2 = 0 ↔ ¬ (k = 2 ∨ k = 4) := by
  unfold undI
  rw [bz]
  constructor
  · intro h q
    exact h (q.elim (fun e => Or.inr (Or.inl e)) (fun e => Or.inr (Or.inr (Or.inr ⟨rfl, e⟩))))
  · intro h q
    rcases q with q | q | q | q
    · exact absurd q (by decide)
    · exact h (Or.inl q)
    · exact absurd q.1 (by decide)
    · exact h (Or.inr q.2)
theorem und1 {k : Int32} : undI k 1 = 0 ↔ ¬ (k = 1 ∨ k = 3) := by
  unfold undI
  rw [bz]
  constructor
  · intro h q
    exact h (q.elim (fun e => Or.inr (Or.inl e)) (fun e => Or.inr (Or.inr (Or.inl ⟨rfl, e⟩))))
  · intro h q
    rcases q with q | q | q | q
    · exact absurd q (by decide)
    · exact h (Or.inl q)
    · exact h (Or.inr q.2)
    · exact absurd q.1 (by decide)
theorem und3 {k : Int32} : undI k 3 = 0 ↔ ¬ k = 3 := by
  unfold undI
  rw [bz]
  constructor
  · intro h q
    exact h (Or.inr (Or.inl q))
  · intro h q
    rcases q with q | q | q | q
    · exact absurd q (by decide)
    · exact h q
    · exact absurd q.1 (by decide)
    · exact absurd q.1 (by decide)
def bV (k s : Int32) : Int32 := if k = 2 ∨ k = 4 then 9999 else if k = 1 ∨ k = 3 then 10 * s else 50 * s
theorem x_bears {i : Nat} (hi : i < 29) (hk : 0 ≤ (V 3 i 0).toInt ∧ (V 3 i 0).toInt ≤ 5) (h : P (some (aI (bV (V 3 i 0) (V 3 i 1)))) V) : Cl UX (d + 2) mX2_bears [aR 3 i] V P := by
  refine clX2_bears i hi V ?_
  unfold wpX2_bears_0
  unfold bV at h
  refine x_isOf hi hk (by decide) ⟨_, rfl, fun c => ?_, fun c => ?_⟩
  · rw [und2] at c
    rw [if_neg c] at h
    refine x_isOf hi hk (by decide) ⟨_, rfl, fun c2 => ?_, fun c2 => ?_⟩
    · rw [und1] at c2
      rw [if_neg c2] at h; exact h
    · rw [und1] at c2
      rw [if_pos (Classical.not_not.mp c2)] at h; exact h
  · rw [und2] at c
    rw [if_pos (Classical.not_not.mp c)] at h; exact h
theorem x_worth {i : Nat} (hi : i < 29) (hs : -1000 ≤ (V 3 i 1).toInt ∧ (V 3 i 1).toInt ≤ 1000) (h : P (some (aI (wrt (V 3 i 0) (V 3 i 1)))) V) : Cl UX (d + 1) mX2_worth [aR 3 i] V P := by
  refine clX2_worth i hi V ?_
  unfold wpX2_worth_0
  unfold wrt at h
  refine ⟨fun c => ?_, fun c => ?_, fun c => ?_, fun c => ?_, fun c => ?_, fun c => ?_⟩
  · simpa [c] using h
  · simpa [c] using h
  · simpa [c] using h
  · have e : (20 : Int32) - V 3 i 1 - 2 = 18 - V 3 i 1 := by
      have a : (20 : Int32).toInt = 20 := rfl
      have b : (2 : Int32).toInt = 2 := rfl
      have b2 : (18 : Int32).toInt = 18 := rfl
      apply ti_eq.mpr
      rw [ti_sub (by rw [ti_sub (by omega) (by omega)]; omega) (by rw [ti_sub (by omega) (by omega)]; omega), ti_sub (by omega) (by omega), ti_sub (by omega) (by omega)]
      omega
    rw [e]
    simpa [c] using h
  · simpa [c] using h
  · simpa [c] using h
theorem x_draw {w : Nat} (hw : w < 3) (hp : P (some (aI (gD (gZ (V 2 w 9))))) (mu V 2 w 9 (gZ (V 2 w 9)))) : Cl UX (d + 1) mX5_draw [aR 2 w] V P := by
  refine clX5_draw w hw V ?_
  unfold wpX5_draw_0
  intro V1 e1
  rw [e1, mu_sk]
  exact hp
theorem x_hod {w h : Nat} (hw : w < 3) (e : V 2 w 8 = nI h) (hl : h < 2 ^ 31) (hp : P (some (aI (nI (h % 24)))) V) : Cl UX (d + 1) mX5_hourOfDay [aR 2 w] V P := by
  refine clX5_hourOfDay w hw V ?_
  unfold wpX5_hourOfDay_0
  intro z ez
  rw [ez, e, hod_eq hl]
  exact hp
/-- water, snow of a roof of a world -/
theorem RW.rain {w m i : Nat} {n : NF} {B : Int} {x : Int32} (hR : RW V w n m) (hI : WI n m B) (hi : i < m) (hx : 0 ≤ x.toInt) (hx2 : x.toInt ≤ 1000000) :
    (if 0 < V 3 (8 * w + i) 4 + x - V 3 (8 * w + i) 3 then V 3 (8 * w + i) 4 + x - V 3 (8 * w + i) 3 else 0) = n (63 + 6 * i) + x - wi (n (63 + 6 * i) + x) 0 (n (62 + 6 * i)) ∧
    V 3 (8 * w + i) 4 + (x - (if 0 < V 3 (8 * w + i) 4 + x - V 3 (8 * w + i) 3 then V 3 (8 * w + i) 4 + x - V 3 (8 * w + i) 3 else 0)) = wi (n (63 + 6 * i) + x) 0 (n (62 + 6 * i)) := by
  have e4 := hR.rf hi (j := 4) (by omega)
  have e3 := hR.rf hi (j := 3) (by omega)
  rw [show 59 + 6 * i + 4 = 63 + 6 * i by omega] at e4
  rw [show 59 + 6 * i + 3 = 62 + 6 * i by omega] at e3
  have hr := hI.1 i hi
  unfold rok at hr
  rw [e4, e3]
  have := cap_eq (w := n (63 + 6 * i)) (x := x) (c := n (62 + 6 * i)) (by omega) (by omega) (by omega) hx hx2
  exact ⟨this.2, this.1⟩
theorem RW.snow {w m i : Nat} {n : NF} {B : Int} {x : Int32} (hR : RW V w n m) (hI : WI n m B) (hi : i < m) (hx : 0 ≤ x.toInt) (hx2 : x.toInt ≤ 1000000) :
    (if 0 < V 3 (8 * w + i) 5 + x - 9999 then V 3 (8 * w + i) 5 + x - 9999 else 0) = n (64 + 6 * i) + x - wi (n (64 + 6 * i) + x) 0 9999 ∧
    V 3 (8 * w + i) 5 + (x - (if 0 < V 3 (8 * w + i) 5 + x - 9999 then V 3 (8 * w + i) 5 + x - 9999 else 0)) = wi (n (64 + 6 * i) + x) 0 9999 := by
  have e4 := hR.rf hi (j := 5) (by omega)
  rw [show 59 + 6 * i + 5 = 64 + 6 * i by omega] at e4
  have hr := hI.1 i hi
  unfold rok at hr
  rw [e4]
  have := cap_eq (w := n (64 + 6 * i)) (x := x) (c := 9999) (by omega) (by rw [ti9999]; omega) (by rw [ti9999]; omega) hx hx2
  exact ⟨this.2, this.1⟩
theorem RW.rained {w m i : Nat} {n : NF} {x : Int32} (hR : RW V w n m) (hi : i < m) : RW (mu (mu V 3 (8 * w + i) 4 (wi (n (63 + 6 * i) + x) 0 (n (62 + 6 * i)))) 2 w 13 (n 7 + (n (63 + 6 * i) + x - wi (n (63 + 6 * i) + x) 0 (n (62 + 6 * i))))) w (gRain n i x) m := by
  have := (hR.roof hi (j := 4) (by omega) (wi (n (63 + 6 * i) + x) 0 (n (62 + 6 * i)))).set 7 (by omega) (by omega) (n 7 + (n (63 + 6 * i) + x - wi (n (63 + 6 * i) + x) 0 (n (62 + 6 * i))))
  rw [show 59 + 6 * i + 4 = 63 + 6 * i by omega] at this
  exact this
theorem RW.snowed {w m i : Nat} {n : NF} {x : Int32} (hR : RW V w n m) (hi : i < m) : RW (mu (mu V 3 (8 * w + i) 5 (wi (n (64 + 6 * i) + x) 0 9999)) 2 w 10 (n 4 + (n (64 + 6 * i) + x - wi (n (64 + 6 * i) + x) 0 9999))) w (gSnow n i x) m := by
  have := (hR.roof hi (j := 5) (by omega) (wi (n (64 + 6 * i) + x) 0 9999)).set 4 (by omega) (by omega) (n 4 + (n (64 + 6 * i) + x - wi (n (64 + 6 * i) + x) 0 9999))
  rw [show 59 + 6 * i + 5 = 64 + 6 * i by omega] at this
  exact this
theorem x_letRain {w m : Nat} {n : NF} {B : Int} {a f : Int32} (hw : w < 3) (hR : RW V w n m) (hI : WI n m B) (hB : B ≤ 800000000) (ha : 0 < a) (hf : 0 ≤ f.toInt ∧ f.toInt ≤ 9) (hp : ∀ V1, RW V1 w (gFalls n a f m) m → FR w V V1 → P none V1) : Cl UX (d + 2) mX5_letRain [aR 2 w, aI f] V P := by
  have L : ∀ q k, k + q = m → ∀ V1, RW V1 w (gFallL n a f k) m → FR w V V1 → Gq (Kp (d + 2) mX5_letRain UX P) UX cX5_letRain 3 RX5 2 [(0, aR 2 w), (1, aI f), (2, aI (nI k))] [] V1 := by
    intro q
    induction q with
    | zero =>
      intro k hk V1 hV hF
      have hk : k = m := by omega
      subst hk
      refine okX5_letRain_2 (I2 := fun _ _ _ => False) w hw _ _ _ (fun _ _ _ q => q.elim) ?_
      unfold wpX5_letRain_2
      rw [hV.many]
      refine ⟨fun _ V2 e2 => ?_, fun c => absurd (nI_le (Nat.le_refl k) (by have := hR.2.1; omega)) c⟩
      refine hp V2 ?_ (by rw [e2]; exact hF.mu2)
      have := hV.set 5 (by omega) (by omega) (gFallL n a f k 5 + 10 * f)
      rw [e2, show V1 2 w 11 = gFallL n a f k 5 from hV.sc 5 (by omega)]
      unfold gFalls
      rw [show fallIx a = 5 from if_pos ha]
      exact this
    | succ q ih =>
      intro k hk V1 hV hF
      have hm := hR.2.1
      refine okX5_letRain_2 (I2 := fun x1 x2 W => x1 = f ∧ x2 = nI (k + 1) ∧ RW W w (gFallL n a f (k + 1)) m ∧ FR w V W) w hw _ _ _ (fun x1 x2 W z => ?_) ?_
      · obtain ⟨rfl, rfl, z1, z2⟩ := z
        exact ih (k + 1) (by omega) W z1 z2
      · unfold wpX5_letRain_2
        rw [hV.many]
        refine ⟨fun c => absurd c (nI_ge (by omega) (by omega)), fun _ => ⟨k, rfl, by omega, ?_⟩⟩
        have hIk := WI.fallL (a := a) (f := f) hI hB hm hf.1 hf.2 k (by omega)
        have e1 := hV.rf (i := k) (by omega) (j := 1) (by omega)
        rw [show 59 + 6 * k + 1 = 60 + 6 * k by omega] at e1
        have hr := hIk.1 k (by omega)
        unfold rok at hr
        have hmr := mul_rng (f := f) (s := gFallL n a f k (60 + 6 * k)) hf.1 hf.2 (by omega) (by omega)
        rw [e1]
        have hrn := hV.rain hIk (i := k) (x := f * gFallL n a f k (60 + 6 * k)) (by omega) hmr.1 (by omega)
        refine x_takeW (by omega) ⟨_, rfl, fun V5 e5 => ⟨rfl, nI_1 k, ?_, ?_⟩⟩
        · rw [e5, hrn.2, hrn.1, show V1 2 w 13 = gFallL n a f k 7 from hV.sc 7 (by omega)]
          rw [gFallL, gFall1, if_pos ha]
          exact hV.rained (by omega)
        · rw [e5]
          exact (hF.mu3 (by omega)).mu2
  refine clX5_letRain (I2 := fun x1 x2 W => x1 = f ∧ x2 = nI 0 ∧ W = V) w hw f V (fun x1 x2 W z => ?_) ⟨rfl, rfl, rfl⟩
  obtain ⟨rfl, rfl, hW⟩ := z
  rw [hW]
  exact L m 0 (by omega) V hR FR.rf
theorem x_letSnow {w m : Nat} {n : NF} {B : Int} {a f : Int32} (hw : w < 3) (hR : RW V w n m) (hI : WI n m B) (hB : B ≤ 800000000) (ha : ¬ 0 < a) (ha2 : a < 0) (hf : 0 ≤ f.toInt ∧ f.toInt ≤ 9) (hp : ∀ V1, RW V1 w (gFalls n a f m) m → FR w V V1 → P none V1) : Cl UX (d + 2) mX5_letSnow [aR 2 w, aI f] V P := by
  have L : ∀ q k, k + q = m → ∀ V1, RW V1 w (gFallL n a f k) m → FR w V V1 → Gq (Kp (d + 2) mX5_letSnow UX P) UX cX5_letSnow 3 RX5 2 [(0, aR 2 w), (1, aI f), (2, aI (nI k))] [] V1 := by
    intro q
    induction q with
    | zero =>
      intro k hk V1 hV hF
      have hk : k = m := by omega
      subst hk
      refine okX5_letSnow_2 (I2 := fun _ _ _ => False) w hw _ _ _ (fun _ _ _ q => q.elim) ?_
      unfold wpX5_letSnow_2
      rw [hV.many]
      refine ⟨fun _ V2 e2 => ?_, fun c => absurd (nI_le (Nat.le_refl k) (by have := hR.2.1; omega)) c⟩
      refine hp V2 ?_ (by rw [e2]; exact hF.mu2)
      have := hV.set 4 (by omega) (by omega) (gFallL n a f k 4 + 10 * f)
      rw [e2, show V1 2 w 10 = gFallL n a f k 4 from hV.sc 4 (by omega)]
      unfold gFalls
      rw [show fallIx a = 4 by unfold fallIx; rw [if_neg ha, if_pos ha2]]
      exact this
    | succ q ih =>
      intro k hk V1 hV hF
      have hm := hR.2.1
      refine okX5_letSnow_2 (I2 := fun x1 x2 W => x1 = f ∧ x2 = nI (k + 1) ∧ RW W w (gFallL n a f (k + 1)) m ∧ FR w V W) w hw _ _ _ (fun x1 x2 W z => ?_) ?_
      · obtain ⟨rfl, rfl, z1, z2⟩ := z
        exact ih (k + 1) (by omega) W z1 z2
      · unfold wpX5_letSnow_2
        rw [hV.many]
        refine ⟨fun c => absurd c (nI_ge (by omega) (by omega)), fun _ => ⟨k, rfl, by omega, ?_⟩⟩
        have hIk := WI.fallL (a := a) (f := f) hI hB hm hf.1 hf.2 k (by omega)
        have e1 := hV.rf (i := k) (by omega) (j := 1) (by omega)
        rw [show 59 + 6 * k + 1 = 60 + 6 * k by omega] at e1
        have hr := hIk.1 k (by omega)
        unfold rok at hr
        have hmr := mul_rng (f := f) (s := gFallL n a f k (60 + 6 * k)) hf.1 hf.2 (by omega) (by omega)
        rw [e1]
        have hrn := hV.snow hIk (i := k) (x := f * gFallL n a f k (60 + 6 * k)) (by omega) hmr.1 (by omega)
        refine x_takeS (by omega) ⟨_, rfl, fun V5 e5 => ⟨rfl, nI_1 k, ?_, ?_⟩⟩
        · rw [e5, hrn.2, hrn.1, show V1 2 w 10 = gFallL n a f k 4 from hV.sc 4 (by omega)]
          rw [gFallL, gFall1, if_neg ha, if_pos ha2]
          exact hV.snowed (by omega)
        · rw [e5]
          exact (hF.mu3 (by omega)).mu2
  refine clX5_letSnow (I2 := fun x1 x2 W => x1 = f ∧ x2 = nI 0 ∧ W = V) w hw f V (fun x1 x2 W z => ?_) ⟨rfl, rfl, rfl⟩
  obtain ⟨rfl, rfl, hW⟩ := z
  rw [hW]
  exact L m 0 (by omega) V hR FR.rf
theorem x_letHail {w m : Nat} {n : NF} {a f : Int32} (hw : w < 3) (hR : RW V w n m) (ha : ¬ 0 < a) (ha2 : ¬ a < 0) (hp : ∀ V1, RW V1 w (gFalls n a f m) m → FR w V V1 → P none V1) : Cl UX (d + 2) mX5_letHail [aR 2 w, aI f] V P := by
  have L : ∀ q k, k + q = m → ∀ V1, RW V1 w (gFallL n a f k) m → FR w V V1 → Gq (Kp (d + 2) mX5_letHail UX P) UX cX5_letHail 3 RX5 2 [(0, aR 2 w), (1, aI f), (2, aI (nI k))] [] V1 := by
    intro q
    induction q with
    | zero =>
      intro k hk V1 hV hF
      have hk : k = m := by omega
      subst hk
      refine okX5_letHail_2 (I2 := fun _ _ _ => False) w hw _ _ _ (fun _ _ _ q => q.elim) ?_
      unfold wpX5_letHail_2
      rw [hV.many]
      refine ⟨fun _ V2 e2 => ?_, fun c => absurd (nI_le (Nat.le_refl k) (by have := hR.2.1; omega)) c⟩
      refine hp V2 ?_ (by rw [e2]; exact hF.mu2)
      have := hV.set 6 (by omega) (by omega) (gFallL n a f k 6 + 10 * f)
      rw [e2, show V1 2 w 12 = gFallL n a f k 6 from hV.sc 6 (by omega)]
      unfold gFalls
      rw [show fallIx a = 6 by unfold fallIx; rw [if_neg ha, if_neg ha2]]
      exact this
    | succ q ih =>
      intro k hk V1 hV hF
      have hm := hR.2.1
      refine okX5_letHail_2 (I2 := fun x1 x2 W => x1 = f ∧ x2 = nI (k + 1) ∧ RW W w (gFallL n a f (k + 1)) m ∧ FR w V W) w hw _ _ _ (fun x1 x2 W z => ?_) ?_
      · obtain ⟨rfl, rfl, z1, z2⟩ := z
        exact ih (k + 1) (by omega) W z1 z2
      · unfold wpX5_letHail_2
        rw [hV.many]
        refine ⟨fun c => absurd c (nI_ge (by omega) (by omega)), fun _ => ⟨k, rfl, by omega, ?_⟩⟩
        have e1 := hV.rf (i := k) (by omega) (j := 1) (by omega)
        rw [show 59 + 6 * k + 1 = 60 + 6 * k by omega] at e1
        rw [e1]
        refine fun V5 e5 => ⟨rfl, nI_1 k, ?_, ?_⟩
        · rw [e5, show V1 2 w 12 = gFallL n a f k 6 from hV.sc 6 (by omega)]
          rw [gFallL, gFall1, if_neg ha, if_neg ha2]
          exact hV.set 6 (by omega) (by omega) _
        · rw [e5]
          exact hF.mu2
  refine clX5_letHail (I2 := fun x1 x2 W => x1 = f ∧ x2 = nI 0 ∧ W = V) w hw f V (fun x1 x2 W z => ?_) ⟨rfl, rfl, rfl⟩
  obtain ⟨rfl, rfl, hW⟩ := z
  rw [hW]
  exact L m 0 (by omega) V hR FR.rf
theorem x_letSlide {w m : Nat} {n : NF} {B : Int} (hw : w < 3) (hR : RW V w n m) (hI : WI n m B) (hB : B ≤ 900000000) (hp : ∀ V1, RW V1 w (gSlideL n m m).1 m → FR w V V1 → P (some (aI (gSlideL n m m).2)) V1) : Cl UX (d + 3) mX5_letSlide [aR 2 w] V P := by
  have hm := hR.2.1
  have L : ∀ q k, k + q = m → ∀ V1, RW V1 w (gSlideL n m k).1 m → FR w V V1 → Gq (Kp (d + 3) mX5_letSlide UX P) UX cX5_letSlide 6 RX5 4 [(0, aR 2 w), (1, aI (gSlideL n m k).2), (2, aI (nI k))] [] V1 := by
    intro q
    induction q with
    | zero =>
      intro k hk V1 hV hF
      have hk : k = m := by omega
      subst hk
      refine okX5_letSlide_4 (I4 := fun _ _ _ => False) w hw _ _ _ (fun _ _ _ q => q.elim) ?_
      unfold wpX5_letSlide_4
      rw [hV.many]
      exact ⟨fun _ => hp V1 hV hF, fun c => absurd (nI_le (Nat.le_refl k) (by omega)) c⟩
    | succ q ih =>
      intro k hk V1 hV hF
      refine okX5_letSlide_4 (I4 := fun x1 x2 W => x1 = (gSlideL n m (k + 1)).2 ∧ x2 = nI (k + 1) ∧ RW W w (gSlideL n m (k + 1)).1 m ∧ FR w V W) w hw _ _ _ (fun x1 x2 W z => ?_) ?_
      · obtain ⟨rfl, rfl, z1, z2⟩ := z
        exact ih (k + 1) (by omega) W z1 z2
      · unfold wpX5_letSlide_4
        rw [hV.many]
        refine ⟨fun c => absurd c (nI_ge (by omega) (by omega)), fun _ => ⟨k, rfl, by omega, ?_⟩⟩
        have hIk := WI.slideL hI hB k (by omega)
        rw [gSlideL]
        generalize gSlideL n m k = g at hV hIk ⊢
        have hr := hIk.1 k (by omega)
        unfold rok at hr
        have e0 := hV.rf (i := k) (by omega) (j := 0) (by omega)
        have e1 := hV.rf (i := k) (by omega) (j := 1) (by omega)
        have e5 := hV.rf (i := k) (by omega) (j := 5) (by omega)
        rw [show 59 + 6 * k + 0 = 59 + 6 * k by omega] at e0
        rw [show 59 + 6 * k + 1 = 60 + 6 * k by omega] at e1
        rw [show 59 + 6 * k + 5 = 64 + 6 * k by omega] at e5
        refine x_bears (by omega) (by rw [e0]; omega) ⟨_, rfl, ?_⟩
        dsimp only
        rw [e0, e1, e5, show bV (g.1 (59 + 6 * k)) (g.1 (60 + 6 * k)) = gB g.1 k from rfl]
        refine ⟨fun c => ⟨?_, nI_1 k, ?_, hF⟩, fun c z ez V5 e6 => ?_⟩
        · rw [gSlide1, if_neg (by rw [ti_lt]; rw [ti_le] at c; omega)]
        · rw [gSlide1, if_neg (by rw [ti_lt]; rw [ti_le] at c; omega)]; exact hV
        · have hc : gB g.1 k < g.1 (64 + 6 * k) := by rw [ti_lt]; rw [ti_le] at c; omega
          subst ez
          have hV5 : RW V5 w (upd g.1 (64 + 6 * k) 0) m := by
            have := hV.roof (i := k) (by omega) (j := 5) (by omega) 0
            rw [show 59 + 6 * k + 5 = 64 + 6 * k by omega] at this
            rw [e6]
            exact this
          have hF5 : FR w V V5 := by rw [e6]; exact hF.mu3 (by omega)
          have h0 : WI (upd g.1 (64 + 6 * k) 0) m (B - (g.1 (64 + 6 * k)).toInt) := (hIk.less (by omega) (x := 0) (by rw [ti0]; omega) (by rw [ti0]; omega)).mono (by rw [ti0]; omega)
          have k5 : V5 3 (8 * w + k) 0 = g.1 (59 + 6 * k) := by rw [e6, mu_sn (by omega), e0]
          refine x_isOf (by omega) (by rw [k5]; omega) (by decide) ⟨_, rfl, ?_⟩
          dsimp only
          rw [k5]
          have n5 : upd g.1 (64 + 6 * k) 0 4 = g.1 4 := up_n (by omega)
          have s5 : V5 2 w 10 = g.1 4 := (hV5.sc 4 (by omega)).trans n5
          have E : ¬ (g.1 (59 + 6 * k) = 3 ∧ k + 1 < m) → wpX5_letSlide_63 (Cl UX (d + 2)) (fun x1 x2 W => x1 = (gSlide1 g.1 g.2 m k).2 ∧ x2 = nI (k + 1) ∧ RW W w (gSlide1 g.1 g.2 m k).1 m ∧ FR w V W) w g.2 (nI k) (8 * w + k) (g.1 (64 + 6 * k)) V5 P := by
            intro hn
            unfold wpX5_letSlide_63 wpX5_letSlide_64
            refine ⟨fun _ V6 e7 => ⟨?_, nI_1 k, ?_, ?_⟩, fun c => absurd rfl c⟩
            · rw [gSlide1, if_pos hc]
            · rw [gSlide1, if_pos hc, if_neg hn, e7, s5]
              exact hV5.set 4 (by omega) (by omega) _
            · rw [e7]; exact hF5.mu2
          refine ⟨fun c1 => E (fun q => (und3.mp c1) q.1), fun c1 => ⟨fun c2 => E (fun q => ?_), fun c2 => ?_⟩⟩
          · rw [hV5.many, nI_1] at c2
            exact absurd c2 (nI_ge q.2 (by omega))
          · have hlt : k + 1 < m := by
              rcases Nat.lt_or_ge (k + 1) m with q | q
              · exact q
              · exact absurd (by rw [hV5.many, nI_1]; exact nI_le q (by omega)) c2
            have hk3 : g.1 (59 + 6 * k) = 3 := Classical.not_not.mp (fun q => c1 (und3.mpr q))
            unfold wpX5_letSlide_64
            refine ⟨fun c => absurd c (by decide), fun _ => ⟨k + 1, nI_1 k, by omega, ?_⟩⟩
            have hsn := hV5.snow h0 (i := k + 1) (x := g.1 (64 + 6 * k)) hlt (by omega) (by omega)
            refine x_takeS (by omega) ⟨_, rfl, fun V8 e8 => ⟨?_, nI_1 k, ?_, ?_⟩⟩
            · rw [gSlide1, if_pos hc]
            · rw [gSlide1, if_pos hc, if_pos ⟨hk3, hlt⟩, e8, hsn.2, hsn.1, s5, ← n5]
              exact hV5.snowed hlt
            · rw [e8]; exact (hF5.mu3 (by omega)).mu2
  refine clX5_letSlide (I4 := fun x1 x2 W => x1 = 0 ∧ x2 = nI 0 ∧ W = V) w hw V (fun x1 x2 W z => ?_) ⟨rfl, rfl, rfl⟩
  obtain ⟨rfl, rfl, hW⟩ := z
  rw [hW]
  exact L m 0 (by omega) V hR FR.rf
end CLS2
