/-! ===== the class: its worlds show rows of numbers ===== -/
def fld : Nat → Nat := fun k => match k with
  | 0 => 9 | 1 => 6 | 2 => 8 | 3 => 7 | 4 => 10 | 5 => 11 | 6 => 12 | 7 => 13 | 8 => 14 | 9 => 15 | _ => 5
theorem fld_inj : ∀ a, a < 11 → ∀ b, b < 11 → fld a = fld b → a = b := by decide
/-- the row that a world shows -/
def vw (V : Mem) (w k : Nat) : Int32 := if k < 11 then V 2 w (fld k) else if k < 35 then V 14 w (k - 11) else if k < 59 then V 15 w (k - 35) else V 3 (8 * w + (k - 59) / 6) ((k - 59) % 6)
def RW (V : Mem) (w : Nat) (n : NF) (m : Nat) : Prop := n 1 = nI m ∧ m ≤ 8 ∧ ∀ k, k < 59 + 6 * m → vw V w k = n k
theorem RW.sc {V : Mem} {w m : Nat} {n : NF} (h : RW V w n m) (k : Nat) (hk : k < 11) : V 2 w (fld k) = n k := by
  have := h.2.2 k (by omega)
  unfold vw at this
  rw [if_pos hk] at this
  exact this
theorem RW.air {V : Mem} {w m : Nat} {n : NF} (h : RW V w n m) (k : Nat) (hk : k < 24) : V 14 w k = n (11 + k) := by
  have := h.2.2 (11 + k) (by omega)
  unfold vw at this
  rw [if_neg (by omega), if_pos (by omega), show 11 + k - 11 = k by omega] at this
  exact this
theorem RW.fal {V : Mem} {w m : Nat} {n : NF} (h : RW V w n m) (k : Nat) (hk : k < 24) : V 15 w k = n (35 + k) := by
  have := h.2.2 (35 + k) (by omega)
  unfold vw at this
  rw [if_neg (by omega), if_neg (by omega), if_pos (by omega), show 35 + k - 35 = k by omega] at this
  exact this
theorem RW.rf {V : Mem} {w m : Nat} {n : NF} (h : RW V w n m) {i j : Nat} (hi : i < m) (hj : j < 6) : V 3 (8 * w + i) j = n (59 + 6 * i + j) := by
  have := h.2.2 (59 + 6 * i + j) (by omega)
  unfold vw at this
  rw [if_neg (by omega), if_neg (by omega), if_neg (by omega), show (59 + 6 * i + j - 59) / 6 = i by omega, show (59 + 6 * i + j - 59) % 6 = j by omega] at this
  exact this
theorem RW.many {V : Mem} {w m : Nat} {n : NF} (h : RW V w n m) : V 2 w 6 = nI m := (h.sc 1 (by omega)).trans h.1
/-- a number of the world, of a roof becomes another -/
theorem RW.set {V : Mem} {w m : Nat} {n : NF} (h : RW V w n m) (k : Nat) (hk : k < 11) (h1 : ¬ k = 1) (x : Int32) : RW (mu V 2 w (fld k) x) w (upd n k x) m := by
  refine ⟨by rw [up_n (fun q => h1 q.symm)]; exact h.1, h.2.1, fun j hj => ?_⟩
  have := h.2.2 j hj
  by_cases hjk : j = k
  · subst hjk
    unfold vw
    rw [if_pos hk, mu_sk, up_s]
  · rw [up_n hjk, ← this]
    unfold vw
    by_cases h11 : j < 11
    · rw [if_pos h11, if_pos h11, mu_sn (fun q => hjk (fld_inj j h11 k hk q))]
    · rw [if_neg h11, if_neg h11, mu_o (by decide), mu_o (by decide), mu_o (by decide)]
theorem RW.roof {V : Mem} {w m : Nat} {n : NF} (h : RW V w n m) {i j : Nat} (hi : i < m) (hj : j < 6) (x : Int32) : RW (mu V 3 (8 * w + i) j x) w (upd n (59 + 6 * i + j) x) m := by
  refine ⟨by rw [up_n (by omega)]; exact h.1, h.2.1, fun k hk => ?_⟩
  have := h.2.2 k hk
  by_cases hjk : k = 59 + 6 * i + j
  · subst hjk
    unfold vw
    rw [if_neg (by omega), if_neg (by omega), if_neg (by omega), show (59 + 6 * i + j - 59) / 6 = i by omega, show (59 + 6 * i + j - 59) % 6 = j by omega, mu_sk, up_s]
  · rw [up_n hjk, ← this]
    unfold vw
    split
    · rw [mu_o (by decide)]
    · split
      · rw [mu_o (by decide)]
      · split
        · rw [mu_o (by decide)]
        · by_cases hq : (k - 59) / 6 = i
          · rw [hq, mu_sn (by omega)]
          · rw [mu_i (by omega)]
/-- the memory that an hour of world w may change -/
def foot (w r i : Nat) : Prop := (r = 2 ∧ i = w) ∨ (r = 3 ∧ 8 * w ≤ i ∧ i < 8 * w + 8) ∨ r = 12
def FR (w : Nat) (V V1 : Mem) : Prop := ∀ r i, ¬ foot w r i → V1 r i = V r i
theorem FR.rf {w : Nat} {V : Mem} : FR w V V := fun _ _ _ => rfl
theorem FR.tr {w : Nat} {V V1 V2 : Mem} (h : FR w V V1) (h2 : FR w V1 V2) : FR w V V2 := fun r i q => (h2 r i q).trans (h r i q)
theorem FR.mu2 {w k : Nat} {V V1 : Mem} {x : Int32} (h : FR w V V1) : FR w V (mu V1 2 w k x) := fun r i q => by
  rw [mu_eq, ma_ne (fun z => q (Or.inl z))]; exact h r i q
theorem FR.mu3 {w i k : Nat} {V V1 : Mem} {x : Int32} (h : FR w V V1) (hi : i < 8) : FR w V (mu V1 3 (8 * w + i) k x) := fun r j q => by
  rw [mu_eq, ma_ne (fun z => q (Or.inr (Or.inl ⟨z.1, by omega, by omega⟩)))]; exact h r j q
theorem FR.st {w : Nat} {V V1 : Mem} {s : NF} (h : FR w V V1) : FR w V (ma V1 12 0 s) := fun r j q => by
  rw [ma_ne (fun z => q (Or.inr (Or.inr z.1)))]; exact h r j q
theorem RW.stk {V : Mem} {w m : Nat} {n : NF} {s : NF} (h : RW V w n m) : RW (ma V 12 0 s) w n m := by
  refine ⟨h.1, h.2.1, fun k hk => ?_⟩
  rw [← h.2.2 k hk]
  unfold vw
  rw [ma_o (by decide), ma_o (by decide), ma_o (by decide), ma_o (by decide)]
section CLS1
variable {d : Nat} {V : Mem} {P : Option AV → Mem → Prop}
theorem x_within {a b c : Int32} (h : P (some (aI (if b ≤ a ∧ a ≤ c then 1 else 0))) V) : Cl UX (d + 1) mX6_isWithin [aI a, aI b, aI c] V P := by
  refine clX6_isWithin a b c V ?_
  unfold wpX6_isWithin_0
  refine ⟨fun c1 => ?_, fun c1 => ⟨fun c2 => ?_, fun c2 => ?_⟩⟩
  · rw [if_neg (fun q => by rw [ti_le] at q; rw [ti_lt] at c1; omega)] at h; exact h
  · rw [if_neg (fun q => by rw [ti_le, ti_le] at q; rw [ti_lt] at c2; omega)] at h; exact h
  · rw [if_pos (by rw [ti_lt] at c1 c2; rw [ti_le, ti_le]; omega)] at h; exact h
theorem x_begin {i : Nat} {a b : Int32} (hi : i < 29) (h : P none (mu (mu (mu (mu (mu (mu V 3 i 0 a) 3 i 1 b) 3 i 2 0) 3 i 3 100) 3 i 4 0) 3 i 5 0)) : Cl UX (d + 1) mX2_begin [aR 3 i, aI a, aI b] V P := by
  refine clX2_begin i hi a b V ?_
  unfold wpX2_begin_0
  intro V1 e1 V2 e2 V3 e3 V4 e4 V5 e5 V6 e6
  subst e1; subst e2; subst e3; subst e4; subst e5; subst e6
  exact h
/-- a kind under another by the table of kinds -/
theorem x_isOf {i : Nat} {a : Int32} (hi : i < 29) (hk : 0 ≤ (V 3 i 0).toInt ∧ (V 3 i 0).toInt ≤ 5) (ha : 0 ≤ a.toInt ∧ a.toInt ≤ 5) (h : P (some (aI (undI (V 3 i 0) a))) V) : Cl UX (d + 1) mX2_isOf [aR 3 i, aI a] V P := by
  obtain ⟨k, hk1, hk2⟩ := nI_of (x := V 3 i 0) (by rw [ti_lt, ti0]; omega)
  obtain ⟨b, hb1, hb2⟩ := nI_of (x := a) (by rw [ti_lt, ti0]; omega)
  rw [hk2, nI_toInt hk1] at hk
  rw [hb2, nI_toInt hb1] at ha
  have hk5 : k ≤ 5 := by omega
  have hb5 : b ≤ 5 := by omega
  rw [hk2] at h
  subst hb2
  -- the walk up the table, from kind q with s steps left
  have L : ∀ s q : Nat, q ≤ 5 → ∀ t : Nat, t + s = 6 → (∀ z : Int32, z = 0 ∨ z = 1 → P (some (aI z)) V → True) → (P (some (aI (undI (nI q) (nI b)))) V) → (q = 0 → 1 ≤ s) → ((q = 1 ∨ q = 2 ∨ q = 5) → 2 ≤ s) → ((q = 3 ∨ q = 4) → 3 ≤ s) →
      Gq (Kp (d + 1) mX2_isOf UX P) UX cX2_isOf 4 RX2 7 [(0, aR 3 i), (1, aI (nI b)), (2, aI (nI q)), (3, aI (nI t))] [] V := by
    intro s
    induction s with
    | zero => intro q hq t ht _ hP h0 h1 h3; exfalso; rcases (show q = 0 ∨ q = 1 ∨ q = 2 ∨ q = 3 ∨ q = 4 ∨ q = 5 by omega) with e | e | e | e | e | e <;> omega
    | succ s ih =>
      intro q hq t ht _ hP h0 h1 h3
      by_cases hqb : q = b
      · subst hqb
        refine okX2_isOf_7 (I7 := fun _ _ _ _ => False) i hi _ _ _ V (fun _ _ _ _ q => q.elim) ?_
        unfold wpX2_isOf_7
        have e1 : undI (nI q) (nI q) = 1 := by unfold undI; rw [if_pos (Or.inr (Or.inl rfl))]
        rw [e1] at hP
        exact ⟨fun c => absurd c (nI_ge (b := 6) (by omega) (by omega)), fun _ => ⟨fun c => absurd c (nI_pos (by omega)), fun _ => ⟨fun c => absurd c (nI_ge (b := 6) (by omega) (by omega)), fun _ => ⟨fun c => absurd rfl c, fun _ => hP⟩⟩⟩⟩
      · have hne : ¬ nI q = nI b := fun z => hqb ((nI_eq (by omega) (by omega)).mp z)
        by_cases hq0 : q = 0
        · subst hq0
          refine okX2_isOf_7 (I7 := fun x1 x2 x3 W => x1 = nI b ∧ x2 = -1 ∧ W = V) i hi _ _ _ V (fun x1 x2 x3 W z => ?_) ?_
          · obtain ⟨rfl, rfl, hW⟩ := z
            rw [hW]
            refine okX2_isOf_7 (I7 := fun _ _ _ _ => False) i hi _ _ _ V (fun _ _ _ _ q => q.elim) ?_
            unfold wpX2_isOf_7
            have e1 : undI (nI 0) (nI b) = 0 := by
              rcases (show b = 1 ∨ b = 2 ∨ b = 3 ∨ b = 4 ∨ b = 5 by omega) with e | e | e | e | e <;> (subst e; rfl)
            rw [e1] at hP
            exact ⟨fun _ => hP, fun _ => ⟨fun _ => hP, fun c => absurd (by decide) c⟩⟩
          · unfold wpX2_isOf_7
            exact ⟨fun c => absurd c (nI_ge (b := 6) (by omega) (by omega)), fun _ => ⟨fun c => absurd c (nI_pos (by omega)), fun _ => ⟨fun c => absurd c (nI_ge (b := 6) (by omega) (by omega)), fun _ => ⟨fun _ => ⟨0, rfl, by omega, fun z ez => ⟨rfl, ez, rfl⟩⟩, fun c => absurd c hne⟩⟩⟩⟩
        · -- up to the kind above
          obtain ⟨u, hu, hab, hund⟩ : ∃ u : Nat, u ≤ 5 ∧ abI q = nI u ∧ (undI (nI q) (nI b) = undI (nI u) (nI b) ∧ (u = 0 → 1 ≤ s) ∧ ((u = 1 ∨ u = 2 ∨ u = 5) → 2 ≤ s) ∧ ((u = 3 ∨ u = 4) → 3 ≤ s)) := by
            rcases (show q = 1 ∨ q = 2 ∨ q = 3 ∨ q = 4 ∨ q = 5 by omega) with e | e | e | e | e
            · subst e
              refine ⟨0, by omega, rfl, ?_, by omega, by omega, by omega⟩
              rcases (show b = 0 ∨ b = 2 ∨ b = 3 ∨ b = 4 ∨ b = 5 by omega) with e | e | e | e | e <;> (subst e; rfl)
            · subst e
              refine ⟨0, by omega, rfl, ?_, by omega, by omega, by omega⟩
              rcases (show b = 0 ∨ b = 1 ∨ b = 3 ∨ b = 4 ∨ b = 5 by omega) with e | e | e | e | e <;> (subst e; rfl)
            · subst e
              refine ⟨1, by omega, rfl, ?_, by omega, by omega, by omega⟩
              rcases (show b = 0 ∨ b = 1 ∨ b = 2 ∨ b = 4 ∨ b = 5 by omega) with e | e | e | e | e <;> (subst e; rfl)
            · subst e
              refine ⟨2, by omega, rfl, ?_, by omega, by omega, by omega⟩
              rcases (show b = 0 ∨ b = 1 ∨ b = 2 ∨ b = 3 ∨ b = 5 by omega) with e | e | e | e | e <;> (subst e; rfl)
            · subst e
              refine ⟨0, by omega, rfl, ?_, by omega, by omega, by omega⟩
              rcases (show b = 0 ∨ b = 1 ∨ b = 2 ∨ b = 3 ∨ b = 4 by omega) with e | e | e | e | e <;> (subst e; rfl)
          rw [hund.1] at hP
          refine okX2_isOf_7 (I7 := fun x1 x2 x3 W => x1 = nI b ∧ x2 = nI u ∧ x3 = nI (t + 1) ∧ W = V) i hi _ _ _ V (fun x1 x2 x3 W z => ?_) ?_
          · obtain ⟨rfl, rfl, rfl, hW⟩ := z
            rw [hW]
            exact ih u hu (t + 1) (by omega) (fun _ _ _ => trivial) hP hund.2.1 hund.2.2.1 hund.2.2.2
          · unfold wpX2_isOf_7
            exact ⟨fun c => absurd c (nI_ge (b := 6) (by omega) (by omega)), fun _ => ⟨fun c => absurd c (nI_pos (by omega)), fun _ => ⟨fun c => absurd c (nI_ge (b := 6) (by omega) (by omega)), fun _ => ⟨fun _ => ⟨q, rfl, by omega, fun z ez => ⟨rfl, ez.trans hab, nI_1 t, rfl⟩⟩, fun c => absurd c hne⟩⟩⟩⟩
  refine clX2_isOf (I7 := fun x1 x2 x3 W => x1 = nI b ∧ x2 = nI k ∧ x3 = nI 0 ∧ W = V) i hi _ V (fun x1 x2 x3 W z => ?_) ?_
  · obtain ⟨rfl, rfl, rfl, hW⟩ := z
    rw [hW]
    exact L 6 k hk5 0 rfl (fun _ _ _ => trivial) h (by omega) (by omega) (by omega)
  · unfold wpX2_isOf_0
    intro z ez
    exact ⟨rfl, by rw [ez, hk2], rfl, rfl⟩
end CLS1
