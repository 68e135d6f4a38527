/-! ===== the reference's small methods ===== -/
section REF1
variable {d : Nat} {V : Mem} {P : Option AV → Mem → Prop}
theorem r_in {a b c : Int32} (h : P (some (aI (if b ≤ a ∧ a ≤ c then 1 else 0))) V) : Cl UM (d + 1) mX7_in [aI a, aI b, aI c] V P := by
  refine clX7_in a b c V ?_
  unfold wpX7_in_0
  refine ⟨fun c1 => ?_, fun c1 => ⟨fun c2 => ?_, fun c2 => ?_⟩⟩
  · rw [if_neg (fun q => by rw [ti_le] at q; rw [ti_lt] at c1; omega)] at h; exact h
  · rw [if_neg (fun q => by rw [ti_le, ti_le] at q; rw [ti_lt] at c2; omega)] at h; exact h
  · rw [if_pos (by rw [ti_lt] at c1 c2; rw [ti_le, ti_le]; omega)] at h; exact h
theorem r_within {a b c : Int32} (h : P (some (aI (wi a b c))) V) : Cl UM (d + 1) mX7_within [aI a, aI b, aI c] V P := by
  refine clX7_within a b c V ?_
  unfold wpX7_within_0
  unfold wi at h
  refine ⟨fun c1 => ⟨fun c2 => ?_, fun c2 => ?_⟩, fun c1 => ?_⟩
  · rw [if_neg (fun q => by rw [ti_le] at c1; rw [ti_lt] at q; omega), if_neg (fun q => by rw [ti_le] at c2; rw [ti_lt] at q; omega)] at h; exact h
  · rw [if_neg (fun q => by rw [ti_le] at c1; rw [ti_lt] at q; omega), if_pos (by rw [ti_le] at c2; rw [ti_lt]; omega)] at h; exact h
  · rw [if_pos (by rw [ti_le] at c1; rw [ti_lt]; omega)] at h; exact h
theorem r_told0 {a : Int32} (h : P (some (aI (if a < 0 then -1000000005 else a))) V) : Cl UM (d + 1) mX7_told0 [aI a] V P := by
  refine clX7_told0 a V ?_
  unfold wpX7_told0_0
  refine ⟨fun c1 => ?_, fun c1 => ?_⟩
  · rw [if_neg (fun q => by rw [ti_le] at c1; rw [ti_lt] at q; omega)] at h; exact h
  · rw [if_pos (by rw [ti_le] at c1; rw [ti_lt]; omega)] at h; exact h
theorem r_isRoof {a : Int32} (h : P (some (aI (if 0 ≤ a ∧ a ≤ V 25 0 1 - 1 then 1 else 0))) V) : Cl UM (d + 2) mX7_isRoof [aR 24 0, aI a] V P := by
  refine clX7_isRoof a V ?_
  unfold wpX7_isRoof_0
  exact r_in ⟨_, rfl, b01, h⟩
theorem r_of {r k : Nat} {a b : Int32} (ea : a = nI r) (eb : b = nI k) (hr : 59 + 6 * r + k < 1479) (h : P (some (aI (V 25 0 (59 + 6 * r + k)))) V) : Cl UM (d + 1) mX7_of [aR 24 0, aI a, aI b] V P := by
  refine clX7_of a b V ?_
  unfold wpX7_of_0
  subst ea; subst eb
  exact ⟨_, ixr r k, hr, h⟩
theorem r_put {r k : Nat} {a b x : Int32} (ea : a = nI r) (eb : b = nI k) (hr : 59 + 6 * r + k < 1479) (h : P none (ma V 25 0 (upd (V 25 0) (59 + 6 * r + k) x))) : Cl UM (d + 1) mX7_put [aR 24 0, aI a, aI b, aI x] V P := by
  refine clX7_put a b x V ?_
  unfold wpX7_put_0
  subst ea; subst eb
  exact ⟨_, ixr r k, hr, fun _ e => by rw [e]; exact h⟩
theorem r_becomes {k : Nat} {a x : Int32} (ea : a = nI k) (hr : k < 1479) (h : P (some (aI (V 25 0 k))) (ma V 25 0 (upd (V 25 0) k x))) : Cl UM (d + 1) mX7_becomes [aR 24 0, aI a, aI x] V P := by
  refine clX7_becomes a x V ?_
  unfold wpX7_becomes_0
  exact ⟨_, ea, hr, fun _ e1 _ e2 => by rw [e1, e2]; exact h⟩
theorem hod_eq {h : Nat} (hl : h < 2 ^ 31) : nI h - nI h / 24 * 24 = nI (h % 24) := pk_rem (d := 24) hl (by decide) (by decide)
theorem r_hod {h : Nat} (e : V 25 0 2 = nI h) (hl : h < 2 ^ 31) (hp : P (some (aI (nI (h % 24)))) V) : Cl UM (d + 1) mX7_hourOfDay [aR 24 0] V P := by
  refine clX7_hourOfDay V ?_
  unfold wpX7_hourOfDay_0
  intro z ez
  rw [ez, e, hod_eq hl]
  exact hp
/-- a roof of a kind comes -/
def zf (n : NF) (r : Nat) : Nat → NF
  | 0 => n
  | k + 1 => upd (zf n r k) (59 + 6 * r + k) 0
def gComes (n : NF) (r : Nat) (kind size : Int32) : NF :=
  upd (upd (upd (upd (zf n r 6) (59 + 6 * r + 0) kind) (59 + 6 * r + 1) size) (59 + 6 * r + 3) 100) 1 (nI (r + 1))
theorem zf_out {n : NF} {r k j : Nat} (h : j < 59 + 6 * r ∨ 59 + 6 * r + k ≤ j) : zf n r k j = n j := by
  induction k with
  | zero => rfl
  | succ k ih =>
    rw [zf, up_n (by omega)]
    exact ih (by omega)
theorem r_comes {r : Nat} {a b : Int32} (e : V 25 0 1 = nI r) (hr : r < 8) (h : P (some (aI (nI r))) (ma V 25 0 (gComes (V 25 0) r a b))) : Cl UM (d + 2) mX7_comes [aR 24 0, aI a, aI b] V P := by
  have L : ∀ m k, k + m = 6 → Gq (Kp (d + 2) mX7_comes UM P) UM cX7_comes 5 RX7 10 [(0, aR 24 0), (1, aI a), (2, aI b), (3, aI (nI r)), (4, aI (nI k))] [] (ma V 25 0 (zf (V 25 0) r k)) := by
    intro m
    induction m with
    | zero =>
      intro k hk
      have hk : k = 6 := by omega
      subst hk
      refine okX7_comes_10 (I10 := fun _ _ _ _ _ => False) a b (nI r) (nI 6) _ (fun _ _ _ _ _ q => q.elim) ?_
      unfold wpX7_comes_10
      refine ⟨fun _ => ?_, fun c => absurd (by decide) c⟩
      refine r_put (k := 0) rfl rfl (by omega) ⟨rfl, ?_⟩
      refine r_put (k := 1) rfl rfl (by omega) ⟨rfl, ?_⟩
      refine r_put (k := 3) rfl rfl (by omega) ⟨rfl, fun V4 e4 => ?_⟩
      rw [e4]
      simp only [ma_same, ma_ma, mu_eq]
      have e1 : upd (upd (upd (zf (V 25 0) r 6) (59 + 6 * r + 0) a) (59 + 6 * r + 1) b) (59 + 6 * r + 3) 100 1 + 1 = nI (r + 1) := by
        rw [up_n (by omega), up_n (by omega), up_n (by omega), zf_out (by omega), e, nI_1]
      rw [e1]
      exact h
    | succ m ih =>
      intro k hk
      refine okX7_comes_10 (I10 := fun x1 x2 x3 x4 W => x1 = a ∧ x2 = b ∧ x3 = nI r ∧ x4 = nI (k + 1) ∧ W = ma V 25 0 (zf (V 25 0) r (k + 1))) a b (nI r) (nI k) _ (fun x1 x2 x3 x4 W q => ?_) ?_
      · obtain ⟨rfl, rfl, rfl, rfl, rfl⟩ := q
        exact ih (k + 1) (by omega)
      · unfold wpX7_comes_10
        refine ⟨fun c => absurd c (nI_ge (b := 6) (by omega) (by omega)), fun _ => ?_⟩
        refine r_put (k := k) rfl rfl (by omega) ⟨rfl, rfl, rfl, rfl, nI_1 k, ?_⟩
        simp only [ma_same, ma_ma, zf]
  refine clX7_comes (I10 := fun x1 x2 x3 x4 W => x1 = a ∧ x2 = b ∧ x3 = nI r ∧ x4 = nI 0 ∧ W = V) a b V (fun x1 x2 x3 x4 W q => ?_) ?_
  · obtain ⟨rfl, rfl, rfl, rfl, rfl⟩ := q
    have := L 6 0 rfl
    rw [zf, ma_eta] at this
    exact this
  · unfold wpX7_comes_0
    intro z ez
    exact ⟨rfl, rfl, by rw [ez, e], rfl, rfl⟩
/-- warmth -/
def gW (n : NF) (h r : Nat) : Int32 := n (11 + h % 24) + n (61 + 6 * r)
theorem r_warmth {h r : Nat} {a : Int32} (e : V 25 0 2 = nI h) (hl : h < 2 ^ 31) (ea : a = nI r) (hr : r < 8) (hp : P (some (aI (gW (V 25 0) h r))) V) : Cl UM (d + 2) mX7_warmthOf [aR 24 0, aI a] V P := by
  refine clX7_warmthOf a V ?_
  unfold wpX7_warmthOf_0
  refine r_hod e hl ⟨_, rfl, 11 + h % 24, ixa 11 (h % 24), by omega, ?_⟩
  refine r_of (k := 2) ea rfl (by omega) ⟨_, rfl, ?_⟩
  rw [show 59 + 6 * r + 2 = 61 + 6 * r by omega]
  exact hp
/-- what a roof bears, is worth -/
def gB (n : NF) (r : Nat) : Int32 := if n (59 + 6 * r) = 2 ∨ n (59 + 6 * r) = 4 then 9999 else if n (59 + 6 * r) = 1 ∨ n (59 + 6 * r) = 3 then 10 * n (60 + 6 * r) else 50 * n (60 + 6 * r)
theorem r_bears {r : Nat} {a : Int32} (ea : a = nI r) (hr : r < 8) (hp : P (some (aI (gB (V 25 0) r))) V) : Cl UM (d + 2) mX7_bearsOf [aR 24 0, aI a] V P := by
  refine clX7_bearsOf a V ?_
  unfold wpX7_bearsOf_0 wpX7_bearsOf_33
  unfold gB at hp
  have e1 : 59 + 6 * r + 1 = 60 + 6 * r := by omega
  have e0 : 59 + 6 * r + 0 = 59 + 6 * r := by omega
  refine r_of (k := 0) ea rfl (by omega) ⟨_, rfl, ?_⟩
  rw [e0]
  refine ⟨fun c => ?_, fun c1 => ⟨fun c2 => ⟨fun c3 => ?_, fun c3 => ⟨fun c4 => ?_, fun c4 => ?_⟩⟩, fun c2 => ?_⟩⟩
  · rw [if_pos (Or.inl c)] at hp; exact hp
  · rw [if_neg (by simp [c1, c2]), if_pos (Or.inl c3)] at hp
    exact r_of (k := 1) ea rfl (by omega) ⟨_, rfl, by rw [e1]; exact hp⟩
  · rw [if_neg (by simp [c1, c2]), if_neg (by simp [c3, c4])] at hp
    exact r_of (k := 1) ea rfl (by omega) ⟨_, rfl, by rw [e1]; exact hp⟩
  · rw [if_neg (by simp [c1, c2]), if_pos (Or.inr c4)] at hp
    exact r_of (k := 1) ea rfl (by omega) ⟨_, rfl, by rw [e1]; exact hp⟩
  · rw [if_pos (Or.inr c2)] at hp; exact hp
def wrt (k s : Int32) : Int32 := if k = 1 then s + 3 else if k = 2 then 20 - s else if k = 3 then 2 * (s + 3) else if k = 4 then 18 - s else if k = 5 then 30 else s
theorem r_worth {r : Nat} {a : Int32} (ea : a = nI r) (hr : r < 8) (hp : P (some (aI (wrt (V 25 0 (59 + 6 * r)) (V 25 0 (60 + 6 * r))))) V) : Cl UM (d + 2) mX7_worthOf [aR 24 0, aI a] V P := by
  refine clX7_worthOf a V ?_
  unfold wpX7_worthOf_0
  have e1 : 59 + 6 * r + 1 = 60 + 6 * r := by omega
  have e0 : 59 + 6 * r + 0 = 59 + 6 * r := by omega
  refine r_of (k := 1) ea rfl (by omega) ⟨_, rfl, ?_⟩
  refine r_of (k := 0) ea rfl (by omega) ⟨_, rfl, ?_⟩
  rw [e0, e1]
  unfold wrt at hp
  refine ⟨fun c => ?_, fun c => ?_, fun c => ?_, fun c => ?_, fun c => ?_, fun c => ?_⟩
  · simpa [c] using hp
  · simpa [c] using hp
  · simpa [c] using hp
  · simpa [c] using hp
  · simpa [c] using hp
  · simpa [c] using hp
/-- whether a kind is another, or under it -/
def und (k o : Int32) : Prop := o = 0 ∨ k = o ∨ (o = 1 ∧ k = 3) ∨ (o = 2 ∧ k = 4)
theorem und_dec (k o : Int32) : und k o ∨ ¬ und k o := Classical.em _
def undI (k o : Int32) : Int32 := if o = 0 ∨ k = o ∨ (o = 1 ∧ k = 3) ∨ (o = 2 ∧ k = 4) then 1 else 0
theorem r_under {a b : Int32} (hp : P (some (aI (undI a b))) V) : Cl UM (d + 1) mX7_isUnder [aI a, aI b] V P := by
  refine clX7_isUnder a b V ?_
  unfold wpX7_isUnder_0 wpX7_isUnder_19
  unfold undI at hp
  refine ⟨fun c => ?_, fun c => ⟨fun c2 => ?_, fun c2 => ⟨fun c3 => ⟨fun c4 => ?_, fun c4 => ⟨fun c5 => ?_, fun c5 => ?_⟩⟩, fun c3 => ⟨fun c4 => ?_, fun c4 => ⟨fun c5 => ?_, fun c5 => ⟨fun c6 => ?_, fun c6 => ?_⟩⟩⟩⟩⟩⟩
  all_goals first | (simpa [*] using hp; done) | (simp_all; done)
/-- water, snow come to a roof -/
def gRain (n : NF) (r : Nat) (x : Int32) : NF := upd (upd n (63 + 6 * r) (wi (n (63 + 6 * r) + x) 0 (n (62 + 6 * r)))) 7 (n 7 + (n (63 + 6 * r) + x - wi (n (63 + 6 * r) + x) 0 (n (62 + 6 * r))))
def gSnow (n : NF) (r : Nat) (x : Int32) : NF := upd (upd n (64 + 6 * r) (wi (n (64 + 6 * r) + x) 0 9999)) 4 (n 4 + (n (64 + 6 * r) + x - wi (n (64 + 6 * r) + x) 0 9999))
theorem r_rains {r : Nat} {a x : Int32} (ea : a = nI r) (hr : r < 8) (hp : P none (ma V 25 0 (gRain (V 25 0) r x))) : Cl UM (d + 2) mX7_rains [aR 24 0, aI a, aI x] V P := by
  refine clX7_rains a x V ?_
  unfold wpX7_rains_0
  have e4 : 59 + 6 * r + 4 = 63 + 6 * r := by omega
  have e3 : 59 + 6 * r + 3 = 62 + 6 * r := by omega
  refine r_of (k := 4) ea rfl (by omega) ⟨_, rfl, fun z ez => ?_⟩
  refine r_of (k := 3) ea rfl (by omega) ⟨_, rfl, ?_⟩
  refine r_within ⟨_, rfl, ?_⟩
  refine r_put (k := 4) ea rfl (by omega) ⟨rfl, ?_⟩
  refine r_of (k := 4) ea rfl (by omega) ⟨_, rfl, fun V1 e1 => ?_⟩
  rw [e1, ez, e4, e3]
  simp only [ma_same, ma_ma, mu_eq]
  rw [up_s, up_n (show ¬ 7 = 63 + 6 * r by omega)]
  exact hp
theorem r_snows {r : Nat} {a x : Int32} (ea : a = nI r) (hr : r < 8) (hp : P none (ma V 25 0 (gSnow (V 25 0) r x))) : Cl UM (d + 2) mX7_snows [aR 24 0, aI a, aI x] V P := by
  refine clX7_snows a x V ?_
  unfold wpX7_snows_0
  have e4 : 59 + 6 * r + 5 = 64 + 6 * r := by omega
  refine r_of (k := 5) ea rfl (by omega) ⟨_, rfl, fun z ez => ?_⟩
  refine r_within ⟨_, rfl, ?_⟩
  refine r_put (k := 5) ea rfl (by omega) ⟨rfl, ?_⟩
  refine r_of (k := 5) ea rfl (by omega) ⟨_, rfl, fun V1 e1 => ?_⟩
  rw [e1, ez, e4]
  simp only [ma_same, ma_ma, mu_eq]
  rw [up_s, up_n (show ¬ 4 = 64 + 6 * r by omega)]
  exact hp
/-- a draw -/
def gZ (z : Int32) : Int32 := z * 1103515245 + 12345
def gD (z : Int32) : Int32 := (z.toUInt32 >>> ((8 : Int32).toUInt32 &&& Int32.toUInt32 31)).toInt32
theorem r_draw (hp : P (some (aI (gD (gZ (V 25 0 0))))) (ma V 25 0 (upd (V 25 0) 0 (gZ (V 25 0 0))))) : Cl UM (d + 1) mX7_draw [aR 24 0] V P := by
  refine clX7_draw V ?_
  unfold wpX7_draw_0
  intro V1 e1
  rw [e1, mu_sk]
  exact hp
end REF1
