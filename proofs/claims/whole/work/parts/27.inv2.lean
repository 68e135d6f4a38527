/-! ===== an hour keeps what always holds ===== -/
theorem mul_rng {f s : Int32} (h1 : 0 ≤ f.toInt) (h2 : f.toInt ≤ 9) (h3 : 1 ≤ s.toInt) (h4 : s.toInt ≤ 9) : 0 ≤ (f * s).toInt ∧ (f * s).toInt ≤ 81 ∧ (f * s).toInt = f.toInt * s.toInt := by
  have a : 0 ≤ f.toInt * s.toInt := Int.mul_nonneg h1 (by omega)
  have b : f.toInt * s.toInt ≤ 9 * 9 := Int.mul_le_mul h2 h4 (by omega) (by omega)
  have e : (f * s).toInt = f.toInt * s.toInt := ti_mul (by omega) (by omega)
  omega
theorem ten_rng {f : Int32} (h1 : 0 ≤ f.toInt) (h2 : f.toInt ≤ 9) : 0 ≤ (10 * f).toInt ∧ (10 * f).toInt ≤ 90 := by
  have e0 : (10 : Int32).toInt = 10 := rfl
  have e : (10 * f).toInt = 10 * f.toInt := by rw [ti_mul (by rw [e0]; omega) (by rw [e0]; omega), e0]
  omega
theorem five_rng {a : Int32} (h1 : -20 ≤ a.toInt) (h2 : a.toInt ≤ 20) : (5 * a).toInt = 5 * a.toInt := by
  have e0 : (5 : Int32).toInt = 5 := rfl
  rw [ti_mul (by rw [e0]; omega) (by rw [e0]; omega), e0]
theorem WI.fall1 {n : NF} {m i : Nat} {B : Int} {a f : Int32} (h : WI n m B) (hB : B ≤ 900000000) (hi : i < m) (h1 : 0 ≤ f.toInt) (h2 : f.toInt ≤ 9) : WI (gFall1 n a f i) m (B + 81) := by
  have hr := h.1 i hi
  unfold rok at hr
  have hm := mul_rng (f := f) (s := n (60 + 6 * i)) h1 h2 (by omega) (by omega)
  unfold gFall1
  split
  · exact (h.rain (by omega) hi hm.1 (by omega)).mono (by omega)
  · split
    · exact (h.snow (by omega) hi hm.1 (by omega)).mono (by omega)
    · exact (h.str (p := 6) (by omega) (by omega) hm.1 (by omega)).mono (by omega)
theorem WI.fallL {n : NF} {m : Nat} {B : Int} {a f : Int32} (h : WI n m B) (hB : B ≤ 800000000) (hm : m ≤ 8) (h1 : 0 ≤ f.toInt) (h2 : f.toInt ≤ 9) : ∀ k, k ≤ m → WI (gFallL n a f k) m (B + 81 * k)
  | 0, _ => h.mono (by omega)
  | k + 1, hk => by
    rw [gFallL]
    exact ((WI.fallL h hB hm h1 h2 k (by omega)).fall1 (by omega) (by omega) h1 h2).mono (by omega)
theorem WI.falls {n : NF} {m : Nat} {B : Int} {a f : Int32} (h : WI n m B) (hB : B ≤ 800000000) (hm : m ≤ 8) (h1 : 0 ≤ f.toInt) (h2 : f.toInt ≤ 9) : WI (gFalls n a f m) m (B + 738) := by
  have ht := ten_rng h1 h2
  unfold gFalls
  refine (WI.str (p := fallIx a) (WI.fallL (a := a) h hB hm h1 h2 m (Nat.le_refl m)) (by omega) ?_ ht.1 (by omega)).mono (by omega)
  rcases fallIx_in a with q | q | q <;> omega
theorem WI.slide1 {n : NF} {m i : Nat} {B : Int} {c : Int32} (h : WI n m B) (hB : B ≤ 900000000) (hi : i < m) : WI (gSlide1 n c m i).1 m B := by
  unfold gSlide1
  split
  · have hr := h.1 i hi
    unfold rok at hr
    have h0 : WI (upd n (64 + 6 * i) 0) m (B - (n (64 + 6 * i)).toInt) := (h.less hi (x := 0) (by rw [ti0]; omega) (by rw [ti0]; omega)).mono (by rw [ti0]; omega)
    split
    · next q => exact (h0.snow (i := i + 1) (by omega) q.2 (by omega) (by omega)).mono (by omega)
    · have := (h0.str (p := 4) (x := n (64 + 6 * i)) (by omega) (by omega) (by omega) (by omega)).mono (B1 := B) (by omega)
      rw [up_n (show ¬ 4 = 64 + 6 * i by omega)] at this
      exact this
  · exact h
theorem WI.slideL {n : NF} {m : Nat} {B : Int} (h : WI n m B) (hB : B ≤ 900000000) : ∀ k, k ≤ m → WI (gSlideL n m k).1 m B
  | 0, _ => h
  | k + 1, hk => by
    rw [gSlideL]
    exact (WI.slideL h hB k (by omega)).slide1 hB (by omega)
theorem half_rng {x : Int32} (h : 0 ≤ x.toInt) : 0 ≤ (x / 2).toInt ∧ (x / 2).toInt ≤ x.toInt := by
  obtain ⟨p, hp, e⟩ := nI_of (x := x) (by rw [ti_lt, ti0]; omega)
  subst e
  rw [show (2 : Int32) = nI 2 from rfl, pk_div hp (by omega) (by omega), nI_toInt (by omega), nI_toInt hp]
  omega
theorem gPl_rng {n : NF} {T h r : Nat} (hs : 0 ≤ (n (64 + 6 * r)).toInt) : 0 ≤ (gPl n T h r).toInt ∧ (gPl n T h r).toInt ≤ (n (64 + 6 * r)).toInt := by
  unfold gPl
  rw [wi_ti, ti0]
  split
  · omega
  · split <;> omega
theorem gM_rng {n : NF} {T h r : Nat} (hs : 0 ≤ (n (64 + 6 * r)).toInt) : 0 ≤ (gM n T h r).toInt ∧ (gM n T h r).toInt ≤ (n (64 + 6 * r)).toInt := by
  have hp := gPl_rng (T := T) (h := h) hs
  unfold gM
  split
  · rw [wi_ti, ti0]
    split
    · omega
    · split <;> omega
  · split
    · have := half_rng hp.1
      omega
    · exact hp
theorem WI.melt1 {n : NF} {m i T h : Nat} {B : Int} (hI : WI n m B) (hB : B ≤ 900000000) (hi : i < m) : WI (gMelt1 n T h i) m B := by
  have hr := hI.1 i hi
  unfold rok at hr
  have hM := gM_rng (n := n) (T := T) (h := h) (r := i) (by omega)
  have e1 : (n (64 + 6 * i) - gM n T h i).toInt = (n (64 + 6 * i)).toInt - (gM n T h i).toInt := ti_sub (by omega) (by omega)
  have h0 : WI (upd n (64 + 6 * i) (n (64 + 6 * i) - gM n T h i)) m (B - (gM n T h i).toInt) := (hI.less hi (by omega) (by omega)).mono (by omega)
  unfold gMelt1
  split
  · have := (h0.str (p := 5) (x := gM n T h i) (by omega) (by omega) (by omega) (by omega)).mono (B1 := B) (by omega)
    rw [up_n (show ¬ 5 = 64 + 6 * i by omega)] at this
    exact this
  · exact (h0.rain (by omega) hi (by omega) (by omega)).mono (by omega)
theorem WI.meltL {n : NF} {m T h : Nat} {B : Int} (hI : WI n m B) (hB : B ≤ 900000000) : ∀ k, k ≤ m → WI (gMeltL n T h k) m B
  | 0, _ => hI
  | k + 1, hk => by
    rw [gMeltL]
    exact (WI.meltL hI hB k (by omega)).melt1 hB (by omega)
theorem WI.fin {n : NF} {m : Nat} {B : Int} {a : Int32} (hI : WI n m B) (hB : B ≤ 900000000) : WI (gEnd n a) m B := by
  obtain ⟨h1, h4, h5, h6, h7, h9, hm⟩ := hI
  have hp := msr_pos m h1
  have e3 := wi_ti (v := 5 * a) (a := 0) (b := n 4)
  rw [ti0] at e3
  unfold gEnd
  generalize wi (5 * a) 0 (n 4) = x at e3
  have hx : 0 ≤ x.toInt ∧ x.toInt ≤ (n 4).toInt := by
    split at e3
    · omega
    · split at e3 <;> omega
  have e1 : (n 4 - x).toInt = (n 4).toInt - x.toInt := ti_sub (by omega) (by omega)
  have e2 : (n 5 + x).toInt = (n 5).toInt + x.toInt := ti_add (by omega) (by omega)
  refine ⟨fun j hj => (((h1 j hj).out (by omega)).out (by omega)).out (by omega), ?_, ?_, ?_, ?_, ?_, ?_⟩
  · rw [up_n (by omega), up_n (by omega), up_s]; omega
  · rw [up_n (by omega), up_s]; omega
  · rw [up_n (by omega), up_n (by omega), up_n (by omega)]; exact h6
  · rw [up_n (by omega), up_n (by omega), up_n (by omega)]; exact h7
  · rw [up_n (by omega), up_n (by omega), up_n (by omega)]; exact h9
  · rw [msr_out m (fun j hj => by omega), msr_out m (fun j hj => by omega), msr_out m (fun j hj => by omega), up_n (show ¬ 4 = 2 by omega), up_n (show ¬ 4 = 5 by omega), up_s, up_n (show ¬ 5 = 2 by omega), up_s, up_n (show ¬ 6 = 2 by omega), up_n (show ¬ 6 = 5 by omega), up_n (show ¬ 6 = 4 by omega), up_n (show ¬ 7 = 2 by omega), up_n (show ¬ 7 = 5 by omega), up_n (show ¬ 7 = 4 by omega), up_n (show ¬ 9 = 2 by omega), up_n (show ¬ 9 = 5 by omega), up_n (show ¬ 9 = 4 by omega)]
    omega
theorem WI.hour {n : NF} {m T h : Nat} {B : Int} (hI : WI n m B) (hs : sky n) (hm : m ≤ 8) (hB : B ≤ 800000000) : WI (gHour n T h m).1 m (B + 738) := by
  have hf := (hs (h % 24) (by omega)).2
  have h1 : WI (gH1 n h m) m (B + 738) := hI.falls hB hm hf.1 hf.2
  have h2 : WI (gH2 n h m).1 m (B + 738) := h1.slideL (by omega) m (Nat.le_refl m)
  exact (h2.meltL (by omega) m (Nat.le_refl m)).fin (by omega)
theorem sky.eq {n n1 : NF} (h : sky n) (e : ∀ j, 11 ≤ j → j < 59 → n1 j = n j) : sky n1 := by
  intro k hk
  rw [e (11 + k) (by omega) (by omega), e (35 + k) (by omega) (by omega)]
  exact h k hk
theorem sky.hour {n : NF} {m T h : Nat} (hs : sky n) : sky (gHour n T h m).1 := hs.eq (fun j h1 h2 => gHour_o (not_hot (by omega) (by omega)))
theorem WI.hours {n : NF} {m T h : Nat} {B : Int} (hI : WI n m B) (hs : sky n) (hm : m ≤ 8) (hB : B ≤ 500000000) : ∀ k, k ≤ 1000 → WI (gHours n T h m k).1 m (B + 738 * k) ∧ sky (gHours n T h m k).1
  | 0, _ => ⟨hI.mono (by omega), hs⟩
  | k + 1, hk => by
    obtain ⟨a, b⟩ := WI.hours hI hs hm hB k (by omega)
    rw [gHours]
    exact ⟨(a.hour b hm (by omega)).mono (by omega), b.hour⟩
