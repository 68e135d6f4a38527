/-! ===== what always holds of a row of numbers; what an hour keeps ===== -/
def rok (n : NF) (i : Nat) : Prop :=
  (0 ≤ (n (59 + 6 * i)).toInt ∧ (n (59 + 6 * i)).toInt ≤ 5) ∧ (1 ≤ (n (60 + 6 * i)).toInt ∧ (n (60 + 6 * i)).toInt ≤ 9) ∧ (0 ≤ (n (61 + 6 * i)).toInt ∧ (n (61 + 6 * i)).toInt ≤ 9) ∧
  (n (62 + 6 * i)).toInt ≤ 99999 ∧ (0 ≤ (n (63 + 6 * i)).toInt ∧ (n (63 + 6 * i)).toInt ≤ (n (62 + 6 * i)).toInt) ∧ (0 ≤ (n (64 + 6 * i)).toInt ∧ (n (64 + 6 * i)).toInt ≤ 9999)
theorem rok.eq {n n1 : NF} {i : Nat} (h : rok n i) (e : ∀ k, k < 6 → n1 (59 + 6 * i + k) = n (59 + 6 * i + k)) : rok n1 i := by
  have e0 := e 0 (by omega)
  have e1 := e 1 (by omega)
  have e2 := e 2 (by omega)
  have e3 := e 3 (by omega)
  have e4 := e 4 (by omega)
  have e5 := e 5 (by omega)
  rw [show 59 + 6 * i + 0 = 59 + 6 * i by omega] at e0
  rw [show 59 + 6 * i + 1 = 60 + 6 * i by omega] at e1
  rw [show 59 + 6 * i + 2 = 61 + 6 * i by omega] at e2
  rw [show 59 + 6 * i + 3 = 62 + 6 * i by omega] at e3
  rw [show 59 + 6 * i + 4 = 63 + 6 * i by omega] at e4
  rw [show 59 + 6 * i + 5 = 64 + 6 * i by omega] at e5
  unfold rok
  rw [e0, e1, e2, e3, e4, e5]
  exact h
theorem rok.out {n : NF} {i p : Nat} {x : Int32} (h : rok n i) (hp : p < 59 + 6 * i ∨ 65 + 6 * i ≤ p) : rok (upd n p x) i := h.eq (fun k hk => up_n (by omega))
theorem rok.wat {n : NF} {i : Nat} {x : Int32} (h : rok n i) (h1 : 0 ≤ x.toInt) (h2 : x.toInt ≤ (n (62 + 6 * i)).toInt) : rok (upd n (63 + 6 * i) x) i := by
  unfold rok at h ⊢
  rw [up_s, up_n (show ¬ 59 + 6 * i = 63 + 6 * i by omega), up_n (show ¬ 60 + 6 * i = 63 + 6 * i by omega), up_n (show ¬ 61 + 6 * i = 63 + 6 * i by omega), up_n (show ¬ 62 + 6 * i = 63 + 6 * i by omega), up_n (show ¬ 64 + 6 * i = 63 + 6 * i by omega)]
  omega
theorem rok.sno {n : NF} {i : Nat} {x : Int32} (h : rok n i) (h1 : 0 ≤ x.toInt) (h2 : x.toInt ≤ 9999) : rok (upd n (64 + 6 * i) x) i := by
  unfold rok at h ⊢
  rw [up_s, up_n (show ¬ 59 + 6 * i = 64 + 6 * i by omega), up_n (show ¬ 60 + 6 * i = 64 + 6 * i by omega), up_n (show ¬ 61 + 6 * i = 64 + 6 * i by omega), up_n (show ¬ 62 + 6 * i = 64 + 6 * i by omega), up_n (show ¬ 63 + 6 * i = 64 + 6 * i by omega)]
  omega
/-- all kilos -/
def msr (n : NF) : Nat → Int
  | 0 => 0
  | i + 1 => msr n i + (n (63 + 6 * i)).toInt + (n (64 + 6 * i)).toInt
theorem msr_out {n : NF} {p : Nat} {x : Int32} : ∀ m, (∀ i, i < m → ¬ p = 63 + 6 * i ∧ ¬ p = 64 + 6 * i) → msr (upd n p x) m = msr n m
  | 0, _ => rfl
  | m + 1, h => by
    rw [msr, msr, msr_out m (fun i hi => h i (by omega)), up_n (fun q => (h m (by omega)).1 q.symm), up_n (fun q => (h m (by omega)).2 q.symm)]
theorem msr_wat {n : NF} {i : Nat} {x : Int32} : ∀ m, i < m → msr (upd n (63 + 6 * i) x) m = msr n m - (n (63 + 6 * i)).toInt + x.toInt
  | 0, h => absurd h (by omega)
  | m + 1, h => by
    rw [msr, msr]
    by_cases hi : i = m
    · subst hi
      rw [msr_out i (fun j hj => by omega), up_s, up_n (by omega)]
      omega
    · rw [msr_wat m (by omega), up_n (by omega), up_n (by omega)]
      omega
theorem msr_sno {n : NF} {i : Nat} {x : Int32} : ∀ m, i < m → msr (upd n (64 + 6 * i) x) m = msr n m - (n (64 + 6 * i)).toInt + x.toInt
  | 0, h => absurd h (by omega)
  | m + 1, h => by
    rw [msr, msr]
    by_cases hi : i = m
    · subst hi
      rw [msr_out i (fun j hj => by omega), up_s, up_n (by omega)]
      omega
    · rw [msr_sno m (by omega), up_n (by omega), up_n (by omega)]
      omega
theorem msr_pos {n : NF} : ∀ m, (∀ i, i < m → rok n i) → 0 ≤ msr n m
  | 0, _ => Int.le_refl 0
  | m + 1, h => by
    have h1 := msr_pos m (fun i hi => h i (by omega))
    have h2 := h m (by omega)
    unfold rok at h2
    rw [msr]
    omega
def sky (n : NF) : Prop := ∀ h, h < 24 → (-20 ≤ (n (11 + h)).toInt ∧ (n (11 + h)).toInt ≤ 20) ∧ (0 ≤ (n (35 + h)).toInt ∧ (n (35 + h)).toInt ≤ 9)
def WI (n : NF) (m : Nat) (B : Int) : Prop :=
  (∀ i, i < m → rok n i) ∧ 0 ≤ (n 4).toInt ∧ 0 ≤ (n 5).toInt ∧ 0 ≤ (n 6).toInt ∧ 0 ≤ (n 7).toInt ∧ 0 ≤ (n 9).toInt ∧ msr n m + (n 4).toInt + (n 5).toInt + (n 6).toInt + (n 7).toInt + (n 9).toInt ≤ B
theorem wi_ti {v a b : Int32} : (wi v a b).toInt = if v.toInt < a.toInt then a.toInt else if b.toInt < v.toInt then b.toInt else v.toInt := by
  unfold wi
  by_cases h : v < a
  · rw [if_pos h, if_pos (ti_lt.mp h)]
  · rw [if_neg h, if_neg (fun q => h (ti_lt.mpr q))]
    by_cases h2 : b < v
    · rw [if_pos h2, if_pos (ti_lt.mp h2)]
    · rw [if_neg h2, if_neg (fun q => h2 (ti_lt.mpr q))]
theorem ti0 : (0 : Int32).toInt = 0 := rfl
theorem ti9999 : (9999 : Int32).toInt = 9999 := rfl
/-- what is taken and what runs over, said in two ways -/
theorem cap_eq {w x c : Int32} (hw : 0 ≤ w.toInt) (hc : w.toInt ≤ c.toInt) (hc2 : c.toInt ≤ 100000) (hx : 0 ≤ x.toInt) (hx2 : x.toInt ≤ 1000000) :
    w + (x - (if 0 < w + x - c then w + x - c else 0)) = wi (w + x) 0 c ∧ (if 0 < w + x - c then w + x - c else 0) = w + x - wi (w + x) 0 c := by
  have e1 : (w + x).toInt = w.toInt + x.toInt := ti_add (by omega) (by omega)
  have e2 : (w + x - c).toInt = w.toInt + x.toInt - c.toInt := by rw [ti_sub (by omega) (by omega), e1]
  have e3 := wi_ti (v := w + x) (a := 0) (b := c)
  rw [e1, ti0] at e3
  by_cases h : 0 < w + x - c
  · have h' := ti_lt.mp h
    rw [e2, ti0] at h'
    rw [if_neg (by omega), if_pos (by omega)] at e3
    rw [if_pos h]
    have e4 : (x - (w + x - c)).toInt = c.toInt - w.toInt := by rw [ti_sub (by omega) (by omega), e2]; omega
    refine ⟨ti_eq.mpr ?_, ti_eq.mpr ?_⟩
    · rw [ti_add (by omega) (by omega), e3, e4]; omega
    · rw [e2, ti_sub (by omega) (by omega), e1, e3]
  · have h' : ¬ (0 : Int32).toInt < (w + x - c).toInt := fun q => h (ti_lt.mpr q)
    rw [e2, ti0] at h'
    rw [if_neg (by omega), if_neg (by omega)] at e3
    rw [if_neg h]
    have e4 : (x - 0).toInt = x.toInt := by rw [ti_sub (by rw [ti0]; omega) (by rw [ti0]; omega), ti0]; omega
    refine ⟨ti_eq.mpr ?_, ti_eq.mpr ?_⟩
    · rw [ti_add (by omega) (by omega), e3, e4]
    · rw [ti0, ti_sub (by omega) (by omega), e1, e3]; omega
theorem WI.rain {n : NF} {m i : Nat} {B : Int} {x : Int32} (h : WI n m B) (hB : B ≤ 1000000000) (hi : i < m) (hx : 0 ≤ x.toInt) (hx2 : x.toInt ≤ 1000000) : WI (gRain n i x) m (B + x.toInt) := by
  obtain ⟨h1, h4, h5, h6, h7, h9, hm⟩ := h
  have hr := h1 i hi
  have hp := msr_pos m h1
  have hr' := hr
  unfold rok at hr'
  have e1 : (n (63 + 6 * i) + x).toInt = (n (63 + 6 * i)).toInt + x.toInt := ti_add (by omega) (by omega)
  have e3 := wi_ti (v := n (63 + 6 * i) + x) (a := 0) (b := n (62 + 6 * i))
  rw [e1, ti0, if_neg (by omega)] at e3
  unfold gRain
  generalize wi (n (63 + 6 * i) + x) 0 (n (62 + 6 * i)) = w1 at e3
  have e4 : (n (63 + 6 * i) + x - w1).toInt = (n (63 + 6 * i)).toInt + x.toInt - w1.toInt := by
    rw [ti_sub (by split at e3 <;> omega) (by split at e3 <;> omega), e1]
  have hw1 : 0 ≤ w1.toInt ∧ w1.toInt ≤ (n (62 + 6 * i)).toInt ∧ w1.toInt ≤ (n (63 + 6 * i)).toInt + x.toInt := by split at e3 <;> omega
  have e5 : (n 7 + (n (63 + 6 * i) + x - w1)).toInt = (n 7).toInt + ((n (63 + 6 * i)).toInt + x.toInt - w1.toInt) := by
    rw [ti_add (by omega) (by omega), e4]
  refine ⟨fun j hj => ?_, ?_, ?_, ?_, ?_, ?_, ?_⟩
  · refine rok.out ?_ (by omega)
    by_cases hji : j = i
    · subst hji; exact hr.wat hw1.1 hw1.2.1
    · exact (h1 j hj).out (by omega)
  · rw [up_n (by omega), up_n (by omega)]; exact h4
  · rw [up_n (by omega), up_n (by omega)]; exact h5
  · rw [up_n (by omega), up_n (by omega)]; exact h6
  · rw [up_s, e5]; omega
  · rw [up_n (by omega), up_n (by omega)]; exact h9
  · rw [msr_out m (fun j hj => by omega), msr_wat m hi, up_s, e5, up_n (show ¬ 4 = 7 by omega), up_n (show ¬ 4 = 63 + 6 * i by omega), up_n (show ¬ 5 = 7 by omega), up_n (show ¬ 5 = 63 + 6 * i by omega), up_n (show ¬ 6 = 7 by omega), up_n (show ¬ 6 = 63 + 6 * i by omega), up_n (show ¬ 9 = 7 by omega), up_n (show ¬ 9 = 63 + 6 * i by omega)]
    omega
theorem WI.snow {n : NF} {m i : Nat} {B : Int} {x : Int32} (h : WI n m B) (hB : B ≤ 1000000000) (hi : i < m) (hx : 0 ≤ x.toInt) (hx2 : x.toInt ≤ 1000000) : WI (gSnow n i x) m (B + x.toInt) := by
  obtain ⟨h1, h4, h5, h6, h7, h9, hm⟩ := h
  have hr := h1 i hi
  have hp := msr_pos m h1
  have hr' := hr
  unfold rok at hr'
  have e1 : (n (64 + 6 * i) + x).toInt = (n (64 + 6 * i)).toInt + x.toInt := ti_add (by omega) (by omega)
  have e3 := wi_ti (v := n (64 + 6 * i) + x) (a := 0) (b := 9999)
  rw [e1, ti0, ti9999, if_neg (by omega)] at e3
  unfold gSnow
  generalize wi (n (64 + 6 * i) + x) 0 9999 = w1 at e3
  have e4 : (n (64 + 6 * i) + x - w1).toInt = (n (64 + 6 * i)).toInt + x.toInt - w1.toInt := by
    rw [ti_sub (by split at e3 <;> omega) (by split at e3 <;> omega), e1]
  have hw1 : 0 ≤ w1.toInt ∧ w1.toInt ≤ 9999 ∧ w1.toInt ≤ (n (64 + 6 * i)).toInt + x.toInt := by split at e3 <;> omega
  have e5 : (n 4 + (n (64 + 6 * i) + x - w1)).toInt = (n 4).toInt + ((n (64 + 6 * i)).toInt + x.toInt - w1.toInt) := by
    rw [ti_add (by omega) (by omega), e4]
  refine ⟨fun j hj => ?_, ?_, ?_, ?_, ?_, ?_, ?_⟩
  · refine rok.out ?_ (by omega)
    by_cases hji : j = i
    · subst hji; exact hr.sno hw1.1 hw1.2.1
    · exact (h1 j hj).out (by omega)
  · rw [up_s, e5]; omega
  · rw [up_n (by omega), up_n (by omega)]; exact h5
  · rw [up_n (by omega), up_n (by omega)]; exact h6
  · rw [up_n (by omega), up_n (by omega)]; exact h7
  · rw [up_n (by omega), up_n (by omega)]; exact h9
  · rw [msr_out m (fun j hj => by omega), msr_sno m hi, up_s, e5, up_n (show ¬ 7 = 4 by omega), up_n (show ¬ 7 = 64 + 6 * i by omega), up_n (show ¬ 5 = 4 by omega), up_n (show ¬ 5 = 64 + 6 * i by omega), up_n (show ¬ 6 = 4 by omega), up_n (show ¬ 6 = 64 + 6 * i by omega), up_n (show ¬ 9 = 4 by omega), up_n (show ¬ 9 = 64 + 6 * i by omega)]
    omega
/-- a number of the street grows -/
theorem WI.str {n : NF} {m p : Nat} {B : Int} {x : Int32} (h : WI n m B) (hB : B ≤ 1000000000) (hp : p = 4 ∨ p = 5 ∨ p = 6 ∨ p = 7 ∨ p = 9) (hx : 0 ≤ x.toInt) (hx2 : x.toInt ≤ 1000000) : WI (upd n p (n p + x)) m (B + x.toInt) := by
  obtain ⟨h1, h4, h5, h6, h7, h9, hm⟩ := h
  have hq := msr_pos m h1
  have hpp : 0 ≤ (n p).toInt ∧ (n p).toInt ≤ B := by rcases hp with rfl | rfl | rfl | rfl | rfl <;> omega
  have e : (n p + x).toInt = (n p).toInt + x.toInt := ti_add (by omega) (by omega)
  have hp10 : p < 10 := by omega
  refine ⟨fun j hj => (h1 j hj).out (by omega), ?_, ?_, ?_, ?_, ?_, ?_⟩
  · by_cases q : 4 = p
    · subst q; rw [up_s, e]; omega
    · rw [up_n q]; exact h4
  · by_cases q : 5 = p
    · subst q; rw [up_s, e]; omega
    · rw [up_n q]; exact h5
  · by_cases q : 6 = p
    · subst q; rw [up_s, e]; omega
    · rw [up_n q]; exact h6
  · by_cases q : 7 = p
    · subst q; rw [up_s, e]; omega
    · rw [up_n q]; exact h7
  · by_cases q : 9 = p
    · subst q; rw [up_s, e]; omega
    · rw [up_n q]; exact h9
  · rw [msr_out m (fun j hj => by omega)]
    rcases hp with rfl | rfl | rfl | rfl | rfl
    · rw [up_s, e, up_n (by omega), up_n (by omega), up_n (by omega), up_n (by omega)]; omega
    · rw [up_s, e, up_n (by omega), up_n (by omega), up_n (by omega), up_n (by omega)]; omega
    · rw [up_s, e, up_n (by omega), up_n (by omega), up_n (by omega), up_n (by omega)]; omega
    · rw [up_s, e, up_n (by omega), up_n (by omega), up_n (by omega), up_n (by omega)]; omega
    · rw [up_s, e, up_n (by omega), up_n (by omega), up_n (by omega), up_n (by omega)]; omega
/-- snow goes from a roof -/
theorem WI.less {n : NF} {m i : Nat} {B : Int} {x : Int32} (h : WI n m B) (hi : i < m) (hx : 0 ≤ x.toInt) (hx2 : x.toInt ≤ (n (64 + 6 * i)).toInt) : WI (upd n (64 + 6 * i) x) m (B - (n (64 + 6 * i)).toInt + x.toInt) := by
  obtain ⟨h1, h4, h5, h6, h7, h9, hm⟩ := h
  have hr := h1 i hi
  have hr' := hr
  unfold rok at hr'
  refine ⟨fun j hj => ?_, ?_, ?_, ?_, ?_, ?_, ?_⟩
  · by_cases hji : j = i
    · subst hji; exact hr.sno hx (by omega)
    · exact (h1 j hj).out (by omega)
  · rw [up_n (by omega)]; exact h4
  · rw [up_n (by omega)]; exact h5
  · rw [up_n (by omega)]; exact h6
  · rw [up_n (by omega)]; exact h7
  · rw [up_n (by omega)]; exact h9
  · rw [msr_sno m hi, up_n (by omega), up_n (by omega), up_n (by omega), up_n (by omega), up_n (by omega)]
    omega
theorem WI.mono {n : NF} {m : Nat} {B B1 : Int} (h : WI n m B) (hB : B ≤ B1) : WI n m B1 := by
  obtain ⟨h1, h4, h5, h6, h7, h9, hm⟩ := h
  exact ⟨h1, h4, h5, h6, h7, h9, by omega⟩
