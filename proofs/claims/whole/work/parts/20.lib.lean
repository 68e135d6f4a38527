/-! ===== memories and numbers ===== -/
abbrev NF : Type := Nat → Int32
theorem ma_ma (V : Mem) (r i : Nat) (f g : NF) : ma (ma V r i f) r i g = ma V r i g := by
  funext a b; unfold ma; split <;> rfl
theorem ma_eta (V : Mem) (r i : Nat) : ma V r i (V r i) = V := by
  funext a b; unfold ma; split
  · next h => rw [h.1, h.2]
  · rfl
theorem mu_ma (V : Mem) (r i k : Nat) (f : NF) (x : Int32) : mu (ma V r i f) r i k x = ma V r i (upd f k x) := by
  unfold mu; rw [ma_same, ma_ma]
theorem mu_eq (V : Mem) (r i k : Nat) (x : Int32) : mu V r i k x = ma V r i (upd (V r i) k x) := rfl
theorem ma_comm {V : Mem} {r i r' i' : Nat} {f g : NF} (h : ¬ (r' = r ∧ i' = i)) : ma (ma V r i f) r' i' g = ma (ma V r' i' g) r i f := by
  funext a b; unfold ma
  by_cases h1 : a = r ∧ b = i
  · by_cases h2 : a = r' ∧ b = i'
    · exact absurd ⟨h2.1.symm.trans h1.1, h2.2.symm.trans h1.2⟩ h
    · rw [if_neg h2, if_pos h1, if_pos h1]
  · by_cases h2 : a = r' ∧ b = i'
    · rw [if_pos h2, if_neg h1, if_pos h2]
    · rw [if_neg h2, if_neg h1, if_neg h1, if_neg h2]
theorem ma_o {V : Mem} {r i r' i' : Nat} {f : NF} (h : ¬ r' = r) : ma V r i f r' i' = V r' i' := if_neg (fun q => h q.1)
theorem mu_o {V : Mem} {r i k r' i' : Nat} {x : Int32} (h : ¬ r' = r) : mu V r i k x r' i' = V r' i' := if_neg (fun q => h q.1)
theorem mu_s (V : Mem) (r i k : Nat) (x : Int32) : mu V r i k x r i = upd (V r i) k x := if_pos ⟨rfl, rfl⟩
theorem mu_sk (V : Mem) (r i k : Nat) (x : Int32) : mu V r i k x r i k = x := by rw [mu_s]; exact if_pos rfl
theorem mu_sn {V : Mem} {r i k k' : Nat} {x : Int32} (h : ¬ k' = k) : mu V r i k x r i k' = V r i k' := by rw [mu_s]; exact if_neg h
theorem mu_i {V : Mem} {r i k r' i' : Nat} {x : Int32} (h : ¬ i' = i) : mu V r i k x r' i' = V r' i' := if_neg (fun q => h q.2)
theorem up_s (f : NF) (k : Nat) (x : Int32) : upd f k x k = x := if_pos rfl
theorem up_n {f : NF} {k j : Nat} {x : Int32} (h : ¬ j = k) : upd f k x j = f j := if_neg h
theorem up_up (f : NF) (k : Nat) (x y : Int32) : upd (upd f k x) k y = upd f k y := by
  funext j; unfold upd; split <;> rfl
theorem up_id (f : NF) (k : Nat) : upd f k (f k) = f := by
  funext j; unfold upd; split
  · next h => rw [h]
  · rfl
theorem up_cm (f : NF) {k j : Nat} (x y : Int32) (h : ¬ j = k) : upd (upd f k x) j y = upd (upd f j y) k x := by
  funext a; unfold upd
  by_cases h1 : a = j
  · subst h1; simp [h]
  · by_cases h2 : a = k
    · subst h2; simp [h1]
    · simp [h1, h2]
/-- 0 or 1 -/
theorem bz {c : Prop} [Decidable c] : (if c then (1 : Int32) else 0) = 0 ↔ ¬ c := by
  by_cases h : c
  · simp [h]
  · simp [h]
theorem b01 {c : Prop} [Decidable c] : (if c then (1 : Int32) else 0) = 0 ∨ (if c then (1 : Int32) else 0) = 1 := by
  by_cases h : c
  · exact Or.inr (if_pos h)
  · exact Or.inl (if_neg h)
theorem ti_lt {a b : Int32} : a < b ↔ a.toInt < b.toInt := Int32.lt_iff_toInt_lt
theorem ti_le {a b : Int32} : a ≤ b ↔ a.toInt ≤ b.toInt := Int32.le_iff_toInt_le
theorem ti_eq {a b : Int32} : a = b ↔ a.toInt = b.toInt := Int32.toInt_inj.symm
theorem ti_rng (x : Int32) : -2147483648 ≤ x.toInt ∧ x.toInt < 2147483648 := ⟨Int32.le_toInt x, Int32.toInt_lt x⟩
theorem ti_bm {z : Int} (h1 : -2147483648 ≤ z) (h2 : z < 2147483648) : z.bmod (2 ^ 32) = z := by
  rw [Int.bmod_eq_of_le] <;> omega
theorem ti_add {x y : Int32} (h1 : -2147483648 ≤ x.toInt + y.toInt) (h2 : x.toInt + y.toInt < 2147483648) : (x + y).toInt = x.toInt + y.toInt := by
  rw [Int32.toInt_add]; exact ti_bm h1 h2
theorem ti_sub {x y : Int32} (h1 : -2147483648 ≤ x.toInt - y.toInt) (h2 : x.toInt - y.toInt < 2147483648) : (x - y).toInt = x.toInt - y.toInt := by
  rw [Int32.toInt_sub]; exact ti_bm h1 h2
theorem ti_mul {x y : Int32} (h1 : -2147483648 ≤ x.toInt * y.toInt) (h2 : x.toInt * y.toInt < 2147483648) : (x * y).toInt = x.toInt * y.toInt := by
  rw [Int32.toInt_mul]; exact ti_bm h1 h2
theorem lit_nI (n : Nat) : (OfNat.ofNat n : Int32) = nI n := rfl
theorem ixr (r k : Nat) : (59 + 6 * nI r) + nI k = nI (59 + 6 * r + k) := by
  rw [show (59 : Int32) = nI 59 from rfl, show (6 : Int32) = nI 6 from rfl, pk_mul, nI_add, nI_add]
theorem ixa (a k : Nat) : nI a + nI k = nI (a + k) := nI_add a k
/-- held within -/
def wi (v a b : Int32) : Int32 := if v < a then a else if b < v then b else v
