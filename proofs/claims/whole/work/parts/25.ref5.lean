/-! ===== the reference: an hour whole, hours ===== -/
def M3 (V : Mem) (n f s : NF) : Mem := ma (ma (ma V 25 0 n) 36 0 f) 35 0 s
theorem M3_n (V : Mem) (n f s : NF) : M3 V n f s 25 0 = n := by
  unfold M3; rw [ma_o (by decide), ma_o (by decide), ma_same]
theorem M3_put (V : Mem) (n f s n1 : NF) : ma (M3 V n f s) 25 0 n1 = M3 V n1 f s := by
  unfold M3
  rw [ma_comm (r := 35) (r' := 25) (by omega), ma_comm (r := 36) (r' := 25) (by omega), ma_ma]
theorem M3_fs (V : Mem) (n f s f1 s1 : NF) : ma (ma (M3 V n f s) 36 0 f1) 35 0 s1 = M3 V n f1 s1 := by
  unfold M3
  rw [ma_comm (r := 35) (r' := 36) (by omega), ma_ma, ma_ma]
theorem M3_self (V : Mem) : M3 V (V 25 0) (V 36 0) (V 35 0) = V := by
  unfold M3; rw [ma_eta, ma_eta, ma_eta]
theorem M3_o {V : Mem} {n f s : NF} {r i : Nat} (h1 : ¬ r = 25) (h2 : ¬ r = 36) (h3 : ¬ r = 35) : M3 V n f s r i = V r i := by
  unfold M3; rw [ma_o h3, ma_o h2, ma_o h1]
theorem M3_M3 (V : Mem) (n f s n1 f1 s1 : NF) : M3 (M3 V n f s) n1 f1 s1 = M3 V n1 f1 s1 := by
  rw [M3, M3_put, M3_fs]
def gMelt1 (n : NF) (T h r : Nat) : NF :=
  if gO n T h r = 0 then upd (upd n (64 + 6 * r) (n (64 + 6 * r) - gM n T h r)) 5 (n 5 + gM n T h r)
  else gRain (upd n (64 + 6 * r) (n (64 + 6 * r) - gM n T h r)) r (gM n T h r)
def gMeltL (n : NF) (T h : Nat) : Nat → NF
  | 0 => n
  | k + 1 => gMelt1 (gMeltL n T h k) T h k
def gEnd (n : NF) (a : Int32) : NF := upd (upd (upd n 4 (n 4 - wi (5 * a) 0 (n 4))) 5 (n 5 + wi (5 * a) 0 (n 4))) 2 (n 2 + 1)
def gH1 (n : NF) (h m : Nat) : NF := gFalls n (n (11 + h % 24)) (n (35 + h % 24)) m
def gH2 (n : NF) (h m : Nat) : NF × Int32 := gSlideL (gH1 n h m) m m
def gHour (n : NF) (T h m : Nat) : NF × Int32 := (gEnd (gMeltL (gH2 n h m).1 T h m) (n (11 + h % 24)), (gH2 n h m).2)
def gHours (n : NF) (T h m : Nat) : Nat → NF × Int32
  | 0 => (n, 0)
  | k + 1 => ((gHour (gHours n T h m k).1 T (h + k) m).1, (gHours n T h m k).2 + (gHour (gHours n T h m k).1 T (h + k) m).2)
/-- the places that an hour may change -/
def hot (m j : Nat) : Prop := j = 2 ∨ j = 4 ∨ j = 5 ∨ j = 6 ∨ j = 7 ∨ ∃ r, r < m ∧ (j = 63 + 6 * r ∨ j = 64 + 6 * r)
theorem gMelt1_o {n : NF} {T h r j : Nat} (h5 : ¬ j = 5) (h7 : ¬ j = 7) (h3 : ¬ j = 63 + 6 * r) (h4 : ¬ j = 64 + 6 * r) : gMelt1 n T h r j = n j := by
  unfold gMelt1
  split
  · rw [up_n h5, up_n h4]
  · rw [gRain_o h3 h7, up_n h4]
theorem gMeltL_o {n : NF} {T h j : Nat} (h5 : ¬ j = 5) (h7 : ¬ j = 7) (k : Nat) (h3 : ∀ r, r < k → ¬ j = 63 + 6 * r ∧ ¬ j = 64 + 6 * r) : gMeltL n T h k j = n j := by
  induction k with
  | zero => rfl
  | succ k ih =>
    rw [gMeltL, gMelt1_o h5 h7 (h3 k (by omega)).1 (h3 k (by omega)).2]
    exact ih (fun r hr => h3 r (by omega))
theorem fallIx_in (a : Int32) : fallIx a = 4 ∨ fallIx a = 5 ∨ fallIx a = 6 := by
  unfold fallIx; split
  · exact Or.inr (Or.inl rfl)
  · split
    · exact Or.inl rfl
    · exact Or.inr (Or.inr rfl)
theorem gFalls_o {n : NF} {a f : Int32} {m j : Nat} (h4 : ¬ j = 4) (h5 : ¬ j = 5) (h6 : ¬ j = 6) (h7 : ¬ j = 7) (h3 : ∀ r, r < m → ¬ j = 63 + 6 * r ∧ ¬ j = 64 + 6 * r) : gFalls n a f m j = n j := by
  unfold gFalls
  rw [up_n (by rcases fallIx_in a with q | q | q <;> rw [q] <;> assumption)]
  exact gFallL_o h4 h6 h7 m h3
theorem gH2_o {n : NF} {h m j : Nat} (h4 : ¬ j = 4) (h5 : ¬ j = 5) (h6 : ¬ j = 6) (h7 : ¬ j = 7) (h3 : ∀ r, r < m → ¬ j = 63 + 6 * r ∧ ¬ j = 64 + 6 * r) : (gH2 n h m).1 j = n j := by
  unfold gH2 gH1
  rw [gSlideL_o h4 m (Nat.le_refl m) (fun r hr => (h3 r hr).2)]
  exact gFalls_o h4 h5 h6 h7 h3
theorem gHour_o {n : NF} {T h m j : Nat} (hj : ¬ hot m j) : (gHour n T h m).1 j = n j := by
  have h2 : ¬ j = 2 := fun q => hj (Or.inl q)
  have h4 : ¬ j = 4 := fun q => hj (Or.inr (Or.inl q))
  have h5 : ¬ j = 5 := fun q => hj (Or.inr (Or.inr (Or.inl q)))
  have h6 : ¬ j = 6 := fun q => hj (Or.inr (Or.inr (Or.inr (Or.inl q))))
  have h7 : ¬ j = 7 := fun q => hj (Or.inr (Or.inr (Or.inr (Or.inr (Or.inl q)))))
  have h3 : ∀ r, r < m → ¬ j = 63 + 6 * r ∧ ¬ j = 64 + 6 * r := fun r hr => ⟨fun q => hj (Or.inr (Or.inr (Or.inr (Or.inr (Or.inr ⟨r, hr, Or.inl q⟩))))), fun q => hj (Or.inr (Or.inr (Or.inr (Or.inr (Or.inr ⟨r, hr, Or.inr q⟩)))))⟩
  unfold gHour gEnd
  dsimp only
  rw [up_n h2, up_n h5, up_n h4, gMeltL_o h5 h7 m h3, gH2_o h4 h5 h6 h7 h3]
theorem gHour_2 {n : NF} {T h m : Nat} (e : n 2 = nI h) : (gHour n T h m).1 2 = nI (h + 1) := by
  unfold gHour gEnd
  dsimp only
  rw [up_s, gMeltL_o (by omega) (by omega) m (fun r hr => by omega), gH2_o (by omega) (by omega) (by omega) (by omega) (fun r hr => by omega), e, nI_1]
theorem not_hot {m j : Nat} (h : j < 2 ∨ j = 3 ∨ (8 ≤ j ∧ j < 63) ∨ 59 + 6 * m ≤ j) (hj : j < 63 ∨ 59 + 6 * m ≤ j) : ¬ hot m j := by
  intro q
  rcases q with q | q | q | q | q | ⟨r, hr, q | q⟩ <;> omega
theorem not_hotR {m i k : Nat} (hk : k < 4) : ¬ hot m (59 + 6 * i + k) := by
  intro q
  rcases q with q | q | q | q | q | ⟨r, hr, q | q⟩ <;> omega
theorem gHours_o {n : NF} {T h m j : Nat} (hj : ¬ hot m j) (k : Nat) : (gHours n T h m k).1 j = n j := by
  induction k with
  | zero => rfl
  | succ k ih => rw [gHours]; exact (gHour_o hj).trans ih
theorem gHours_2 {n : NF} {T h m : Nat} (e : n 2 = nI h) (k : Nat) : (gHours n T h m k).1 2 = nI (h + k) := by
  induction k with
  | zero => exact e
  | succ k ih => rw [gHours]; exact gHour_2 ih
theorem LawI.cong {n n1 : NF} {T : Nat} (hI : LawI n T) (h10 : n1 10 = n 10) (h : ∀ j, 107 ≤ j → n1 j = n j) : LawI n1 T := by
  obtain ⟨a, b, c⟩ := hI
  refine ⟨h10.trans a, b, fun t ht => ?_⟩
  obtain ⟨key, L, q1, q2, q3, q4⟩ := c t ht
  refine ⟨key, L, q1, q2, (h _ (by omega)).trans q3, ?_⟩
  rw [show lawC n1 t = lawC n t from funext fun k => h _ (by omega)]
  exact q4
section REF5
variable {d : Nat} {V : Mem} {P : Option AV → Mem → Prop}
theorem r_hour {T h m : Nat} (hI : LawI (V 25 0) T) (e1 : V 25 0 1 = nI m) (hm : m ≤ 8) (e : V 25 0 2 = nI h) (hl : h < 2 ^ 31) (hp : ∀ f s : NF, P (some (aI (gHour (V 25 0) T h m).2)) (M3 V (gHour (V 25 0) T h m).1 f s)) : Cl UM (d + 5) mX7_hour [aR 24 0] V P := by
  have N0 : ∀ k, k ≤ m → ∀ j, ¬ j = 4 → ¬ j = 5 → ¬ j = 6 → ¬ j = 7 → (∀ r, r < m → ¬ j = 63 + 6 * r ∧ ¬ j = 64 + 6 * r) → gMeltL (gH2 (V 25 0) h m).1 T h k j = V 25 0 j := by
    intro k hk j q4 q5 q6 q7 q3
    rw [gMeltL_o q5 q7 k (fun r hr => q3 r (by omega)), gH2_o q4 q5 q6 q7 q3]
  have L : ∀ q k, k + q = m → ∀ f s : NF, Gq (Kp (d + 5) mX7_hour UM P) UM cX7_hour 6 RX7 37 [(0, aR 24 0), (1, aI (V 25 0 (11 + h % 24))), (2, aI (gH2 (V 25 0) h m).2), (3, aI (nI k))] [] (M3 V (gMeltL (gH2 (V 25 0) h m).1 T h k) f s) := by
    intro q
    induction q with
    | zero =>
      intro k hk f s
      have hk : k = m := by omega
      subst hk
      refine okX7_hour_37 (I37 := fun _ _ _ _ => False) _ _ (nI k) _ (fun _ _ _ _ q => q.elim) ?_
      unfold wpX7_hour_37
      rw [M3_n, N0 k (Nat.le_refl k) 1 (by omega) (by omega) (by omega) (by omega) (fun r hr => by omega), e1]
      refine ⟨fun _ => ?_, fun c => absurd (nI_le (Nat.le_refl k) (by omega)) c⟩
      refine r_within ⟨_, rfl, fun V3 q3 V4 q4 V5 q5 => ?_⟩
      have : V5 = M3 V (gHour (V 25 0) T h k).1 f s := by
        rw [q5, q4, q3]
        simp only [mu_eq, M3_n, M3_put]
        rfl
      rw [this]
      exact hp f s
    | succ q ih =>
      intro k hk f s
      refine okX7_hour_37 (I37 := fun x1 x2 x3 W => x1 = V 25 0 (11 + h % 24) ∧ x2 = (gH2 (V 25 0) h m).2 ∧ x3 = nI (k + 1) ∧ ∃ f s, W = M3 V (gMeltL (gH2 (V 25 0) h m).1 T h (k + 1)) f s) _ _ (nI k) _ (fun x1 x2 x3 W q => ?_) ?_
      · obtain ⟨q1, q2, q3, f, s, q4⟩ := q
        rw [q1, q2, q3, q4]
        exact ih (k + 1) (by omega) f s
      · unfold wpX7_hour_37
        have hn1 := N0 k (by omega) 1 (by omega) (by omega) (by omega) (by omega) (fun r hr => by omega)
        have hn2 := N0 k (by omega) 2 (by omega) (by omega) (by omega) (by omega) (fun r hr => by omega)
        have hIk : LawI (gMeltL (gH2 (V 25 0) h m).1 T h k) T := hI.cong (N0 k (by omega) 10 (by omega) (by omega) (by omega) (by omega) (fun r hr => by omega)) (fun j hj => N0 k (by omega) j (by omega) (by omega) (by omega) (by omega) (fun r hr => by omega))
        rw [M3_n, hn1, e1, gMeltL]
        generalize hg : gMeltL (gH2 (V 25 0) h m).1 T h k = g at hn1 hn2 hIk ⊢
        refine ⟨fun c => absurd c (nI_ge (by omega) (by omega)), fun _ => ?_⟩
        have e5 : 59 + 6 * k + 5 = 64 + 6 * k := by omega
        refine r_melts (T := T) (h := h) (by rw [M3_n]; exact hIk) (by rw [M3_n, hn2, e]) hl rfl (by omega) (fun f1 s1 => ⟨_, rfl, ?_⟩)
        rw [M3_fs, M3_n]
        refine r_owns (T := T) (h := h) (by rw [M3_n]; exact hIk) (by rw [M3_n, hn2, e]) hl rfl (by omega) (fun f2 s2 => ⟨_, rfl, ?_⟩)
        rw [M3_fs, M3_n]
        refine r_of (k := 5) rfl rfl (by omega) ⟨_, rfl, ?_⟩
        refine r_put (k := 5) rfl rfl (by omega) ⟨rfl, ?_⟩
        rw [M3_put, M3_n, e5]
        refine ⟨fun c V1 q1 => ⟨rfl, rfl, nI_1 k, f2, s2, ?_⟩, fun c => ?_⟩
        · rw [q1, mu_eq, M3_put, M3_n, gMelt1, if_pos c, up_n (show ¬ 5 = 64 + 6 * k by omega)]
        · refine r_rains rfl (by omega) ⟨rfl, rfl, rfl, nI_1 k, f2, s2, ?_⟩
          rw [M3_put, M3_n, gMelt1, if_neg c]
  refine clX7_hour (I37 := fun x1 x2 x3 W => x1 = V 25 0 (11 + h % 24) ∧ x2 = (gH2 (V 25 0) h m).2 ∧ x3 = nI 0 ∧ W = M3 V (gH2 (V 25 0) h m).1 (V 36 0) (V 35 0)) V (fun x1 x2 x3 W q => ?_) ?_
  · obtain ⟨q1, q2, q3, q4⟩ := q
    rw [q1, q2, q3, q4]
    exact L m 0 (by omega) (V 36 0) (V 35 0)
  · unfold wpX7_hour_0
    refine r_hod e hl ⟨_, rfl, 11 + h % 24, ixa 11 (h % 24), by omega, fun z ez => ?_⟩
    refine r_hod e hl ⟨_, rfl, 35 + h % 24, ixa 35 (h % 24), by omega, ?_⟩
    refine r_falls e1 hm ⟨rfl, ?_⟩
    refine r_slides (m := m) (by rw [ma_same, gFalls_o (by omega) (by omega) (by omega) (by omega) (fun r hr => by omega)]; exact e1) hm ⟨_, rfl, ez, ?_, rfl, ?_⟩
    · rw [ma_same, ez]; rfl
    · rw [ma_same, ma_ma, ez]
      show ma V 25 0 (gH2 (V 25 0) h m).1 = _
      rw [← M3_put V (V 25 0), M3_self]
theorem r_hours {T h m k : Nat} {a : Int32} (hI : LawI (V 25 0) T) (e1 : V 25 0 1 = nI m) (hm : m ≤ 8) (e : V 25 0 2 = nI h) (hl : h + k < 2 ^ 31) (ea : a = nI k) (hp : ∀ f s : NF, P (some (aI (gHours (V 25 0) T h m k).2)) (M3 V (gHours (V 25 0) T h m k).1 f s)) : Cl UM (d + 6) mX7_hours [aR 24 0, aI a] V P := by
  have L : ∀ q j, j + q = k → ∀ f s : NF, Gq (Kp (d + 6) mX7_hours UM P) UM cX7_hours 4 RX7 4 [(0, aR 24 0), (1, aI a), (2, aI (gHours (V 25 0) T h m j).2), (3, aI (nI j))] [] (M3 V (gHours (V 25 0) T h m j).1 f s) := by
    intro q
    induction q with
    | zero =>
      intro j hj f s
      have hj : j = k := by omega
      subst hj
      refine okX7_hours_4 (I4 := fun _ _ _ _ => False) _ _ _ _ (fun _ _ _ _ q => q.elim) ?_
      unfold wpX7_hours_4
      exact ⟨fun _ => hp f s, fun c => absurd (by rw [ea]; exact nI_le (Nat.le_refl j) (by omega)) c⟩
    | succ q ih =>
      intro j hj f s
      refine okX7_hours_4 (I4 := fun x1 x2 x3 W => x1 = a ∧ x2 = (gHours (V 25 0) T h m (j + 1)).2 ∧ x3 = nI (j + 1) ∧ ∃ f s, W = M3 V (gHours (V 25 0) T h m (j + 1)).1 f s) _ _ _ _ (fun x1 x2 x3 W q => ?_) ?_
      · obtain ⟨q1, q2, q3, f, s, q4⟩ := q
        rw [q1, q2, q3, q4]
        exact ih (j + 1) (by omega) f s
      · unfold wpX7_hours_4
        refine ⟨fun c => absurd (by rw [ea] at c; exact c) (nI_ge (by omega) (by omega)), fun _ => ?_⟩
        refine r_hour (T := T) (h := h + j) (m := m) ?_ ?_ hm ?_ (by omega) (fun f1 s1 => ⟨_, rfl, fun z ez => ⟨rfl, ?_, nI_1 j, f1, s1, ?_⟩⟩)
        · rw [M3_n]
          exact hI.cong (gHours_o (not_hot (by omega) (by omega)) j) (fun i hi => gHours_o (not_hot (by omega) (by omega)) j)
        · rw [M3_n, gHours_o (not_hot (by omega) (by omega)) j]; exact e1
        · rw [M3_n]; exact gHours_2 e j
        · rw [ez, M3_n]; rfl
        · rw [M3_n, M3_M3]; rfl
  refine clX7_hours (I4 := fun x1 x2 x3 W => x1 = a ∧ x2 = 0 ∧ x3 = nI 0 ∧ W = V) a V (fun x1 x2 x3 W q => ?_) ?_
  · obtain ⟨q1, q2, q3, q4⟩ := q
    have := L k 0 (by omega) (V 36 0) (V 35 0)
    rw [gHours, M3_self] at this
    rw [q1, q2, q3, q4]
    exact this
  · exact ⟨rfl, rfl, rfl, rfl⟩
end REF5
