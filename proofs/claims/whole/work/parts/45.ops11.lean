/-! ===== the calls, side by side: explained ===== -/
def gAb (z : Int) : Int := if 0 ≤ z then z else -z
def gOff (n : NF) (T h m : Nat) (row : Nat → Int32) : Nat → Int
  | 0 => 0
  | i + 1 => gOff n T h m row i + (if row i = -1000000005 then 0 else gAb (((gHours n T h m i).1 5).toInt - (row i).toInt))
def gMin (f : Nat → Int) : Nat → Nat × Int
  | 0 => (0, f 0)
  | k + 1 => if (gMin f k).2 ≤ f (k + 1) then gMin f k else (k + 1, f (k + 1))
section OPS11
variable {d D : Nat} {V W X M X1 M1 : Mem} {P : Option AV → Mem → Prop} {w v m h T i j k r t u q m1 h1 s : Nat} {n n1 : NF} {a b c x y z kk ss : Int32} {B B1 : Int}
theorem tl_bm {z : Int} (h1 : -9223372036854775808 ≤ z) (h2 : z < 9223372036854775808) : z.bmod (2 ^ 64) = z := by
  rw [Int.bmod_eq_of_le] <;> omega
theorem tl_add {x y : Int64} (h1 : -9223372036854775808 ≤ x.toInt + y.toInt) (h2 : x.toInt + y.toInt < 9223372036854775808) : (x + y).toInt = x.toInt + y.toInt := by
  rw [Int64.toInt_add]; exact tl_bm h1 h2
theorem tl_sub {x y : Int64} (h1 : -9223372036854775808 ≤ x.toInt - y.toInt) (h2 : x.toInt - y.toInt < 9223372036854775808) : (x - y).toInt = x.toInt - y.toInt := by
  rw [Int64.toInt_sub]; exact tl_bm h1 h2
theorem tl_neg {x : Int64} (h1 : -9223372036854775808 ≤ -x.toInt) (h2 : -x.toInt < 9223372036854775808) : (-x).toInt = -x.toInt := by
  rw [Int64.toInt_neg]; exact tl_bm h1 h2
theorem tl_of {x : Int32} : (x.toInt64).toInt = x.toInt := Int32.toInt_toInt64 x
theorem tl_to {x : Int64} (h1 : -2147483648 ≤ x.toInt) (h2 : x.toInt < 2147483648) : (x.toInt32).toInt = x.toInt := by
  rw [Int64.toInt_toInt32]; exact ti_bm h1 h2
theorem tl_le {x y : Int64} : x ≤ y ↔ x.toInt ≤ y.toInt := Int64.le_iff_toInt_le
theorem gOff_rng {row : Nat → Int32} (hw : ∀ i, i < 24 → 0 ≤ ((gHours n T h m i).1 5).toInt ∧ ((gHours n T h m i).1 5).toInt ≤ 7500000) (hr : ∀ i, i < k → row i = -1000000005 ∨ (-99999 ≤ (row i).toInt ∧ (row i).toInt ≤ 99999)) : ∀ i, i ≤ k → i ≤ 24 → 0 ≤ gOff n T h m row i ∧ gOff n T h m row i ≤ 8000000 * i
  | 0, _, _ => ⟨by rw [gOff]; omega, by rw [gOff]; omega⟩
  | i + 1, h1, h2 => by
    have ih := gOff_rng hw hr i (by omega) (by omega)
    have a1 := hw i (by omega)
    have a2 := hr i (by omega)
    rw [gOff]
    split
    · omega
    · next c =>
      have a3 := a2.resolve_left c
      unfold gAb
      split <;> omega
theorem wat_rng (hI : WI n m (738 * (h : Int))) (hs : sky n) (hm : m ≤ 8) (hh : h ≤ 9999) : ∀ i, i < 24 → 0 ≤ ((gHours n T h m i).1 5).toInt ∧ ((gHours n T h m i).1 5).toInt ≤ 7500000 := by
  intro i hi
  obtain ⟨⟨p1, p4, p5, p6, p7, p9, pm⟩, -⟩ := WI.hours (T := T) (h := h) hI hs hm (by omega) i (by omega)
  have hp := msr_pos m p1
  omega
theorem x_misfit {row : Nat → Int32} (hs4 : s < 4) (hS : WS X 0 n m T h (738 * (h : Int))) (hh : h ≤ 9999) (h1 : X 4 s 1 = nI k) (hk : k ≤ 24) (hrow : ∀ i, i < k → X 23 s i = row i) (hr : ∀ i, i < k → row i = -1000000005 ∨ (-99999 ≤ (row i).toInt ∧ (row i).toInt ≤ 99999))
    (hp : ∀ X1 a, TH X X1 → a.toInt = gOff (upd n 3 y) T h m row k → P (some (aI a)) X1) : Cl UX (d + 8) mX6_misfit [aR 0 0, aR 4 s, aI y] X P := by
  have hm := hS.1.2.1
  have hI3 : WI (upd n 3 y) m (738 * (h : Int)) := hS.2.1.out (by omega)
  have hs3 : sky (upd n 3 y) := hS.2.2.1.out (by omega)
  have hw := wat_rng (T := T) hI3 hs3 hm hh
  have hO := gOff_rng (row := row) (k := k) hw hr
  -- at place i, i hours are over
  have F : ∀ (i : Nat) (V1 : Mem) (x3 : Int32) (Q : Option AV → Mem → Prop) (I24 : Int32 → Int32 → Int32 → Mem → Prop), i < k → TH X V1 → WS V1 2 (gHours (upd n 3 y) T h m i).1 m T (h + i) (738 * (h : Int) + 738 * i) → x3.toInt = gOff (upd n 3 y) T h m row i →
      (∀ x, x.toInt = gOff (upd n 3 y) T h m row (i + 1) → I24 y x (nI i + 1) V1) → wpX6_misfit_46 (Cl UX (d + 7)) I24 s y x3 (nI i) V1 Q := by
    intro i V1 x3 Q I24 hi hT hS1 hx hI
    have hOi := hO i (by omega) (by omega)
    have hOs := hO (i + 1) (by omega) (by omega)
    have hwi := hw i (by omega)
    have e23 : V1 23 s = X 23 s := hT 23 s (by unfold thk footB; omega)
    have e11 : V1 2 2 11 = (gHours (upd n 3 y) T h m i).1 5 := hS1.1.sc 5 (by omega)
    unfold wpX6_misfit_46
    refine clX3_isNumber s (by omega) (nI i) V1 ?_
    unfold wpX3_isNumber_0
    refine ⟨i, rfl, by omega, fun c => ⟨_, rfl, f1 (hI x3 ?_)⟩, fun c => ⟨_, rfl, t1 ⟨i, rfl, by omega, fun z4 e4 z5 e5 => hI z5 ?_⟩⟩⟩
    · rw [e23, hrow i hi] at c
      rw [gOff, if_pos c, hx]; omega
    · rw [e23, hrow i hi] at c e4
      rw [e11] at e4
      have hri := (hr i hi).resolve_left c
      rw [gOff, if_neg c] at hOs ⊢
      have e6 : ((gHours (upd n 3 y) T h m i).1 5 - row i).toInt = ((gHours (upd n 3 y) T h m i).1 5).toInt - (row i).toInt := ti_sub (by omega) (by omega)
      have e7 : z4.toInt = gAb (((gHours (upd n 3 y) T h m i).1 5).toInt - (row i).toInt) := by
        unfold gAb
        rw [e4]
        by_cases q : 0 ≤ (gHours (upd n 3 y) T h m i).1 5 - row i
        · rw [if_pos q]
          rw [ti_le, ti0, e6] at q
          rw [if_pos q, e6]
        · rw [if_neg q]
          rw [ti_le, ti0, e6] at q
          rw [if_neg q, ti_sub (by rw [ti0]; omega) (by rw [ti0]; omega), e6, ti0]
          omega
      rw [e5, ti_add (by omega) (by omega), hx, e7]
  have L : ∀ q i, i + 1 + q = k → ∀ V1 x3, TH X V1 → WS V1 2 (gHours (upd n 3 y) T h m i).1 m T (h + i) (738 * (h : Int) + 738 * i) → x3.toInt = gOff (upd n 3 y) T h m row (i + 1) → Gq (Kp (d + 8) mX6_misfit UX P) UX cX6_misfit 5 RX6 24 [(0, aR 0 0), (1, aR 4 s), (2, aI y), (3, aI x3), (4, aI (nI (i + 1)))] [] V1 := by
    intro q
    induction q with
    | zero =>
      intro i hi V1 x3 hT hS1 hx
      refine okX6_misfit_24 (I24 := fun _ _ _ _ => False) s (by omega) y _ _ V1 (fun _ _ _ _ q => q.elim) ?_
      unfold wpX6_misfit_24
      have hi : i + 1 = k := by omega
      rw [hi] at hx ⊢
      rw [hT 4 s (by unfold thk footB; omega), h1]
      exact ⟨fun _ => hp V1 x3 hT hx, fun c => absurd (nI_le (Nat.le_refl k) (by omega)) c⟩
    | succ q ih =>
      intro i hi V1 x3 hT hS1 hx
      refine okX6_misfit_24 (I24 := fun x2 x3 x4 W => x2 = y ∧ x4 = nI (i + 1 + 1) ∧ TH X W ∧ WS W 2 (gHours (upd n 3 y) T h m (i + 1)).1 m T (h + (i + 1)) (738 * (h : Int) + 738 * ((i + 1 : Nat) : Int)) ∧ x3.toInt = gOff (upd n 3 y) T h m row (i + 1 + 1)) s (by omega) y _ _ V1 (fun x2 x3 x4 W z => ?_) ?_
      · obtain ⟨rfl, rfl, z1, z2, z3⟩ := z
        exact ih (i + 1) (by omega) W x3 z1 z2 z3
      · unfold wpX6_misfit_24
        rw [hT 4 s (by unfold thk footB; omega), h1]
        refine ⟨fun c => absurd c (nI_ge (by omega) (by omega)), fun _ => ⟨fun c => ?_, fun _ => ?_⟩⟩
        · exact absurd ((nI_leI (b := 0) (by omega) (by omega)).mp c) (by omega)
        · refine x_passHour (by omega) hS1 (by omega) (by omega) (fun V2 hS2 hF2 => ⟨_, rfl, ?_⟩)
          have hS2 : WS V2 2 (gHours (upd n 3 y) T h m (i + 1)).1 m T (h + (i + 1)) (738 * (h : Int) + 738 * ((i + 1 : Nat) : Int)) := by
            rw [show 738 * (h : Int) + 738 * ((i + 1 : Nat) : Int) = 738 * (h : Int) + 738 * i + 738 by omega]
            exact hS2
          exact F (i + 1) V2 x3 _ _ (by omega) (hT.tr (TH.fr hF2)) hS2 hx (fun x hx => ⟨rfl, nI_1 (i + 1), hT.tr (TH.fr hF2), hS2, hx⟩)
  refine clX6_misfit (I24 := fun x2 x3 x4 W => x2 = y ∧ x3 = 0 ∧ x4 = nI 0 ∧ TH X W ∧ WS W 2 (gHours (upd n 3 y) T h m 0).1 m T (h + 0) (738 * (h : Int) + 738 * ((0 : Nat) : Int))) s (by omega) y X (fun x2 x3 x4 W z => ?_) ?_
  · obtain ⟨rfl, rfl, rfl, z1, z2⟩ := z
    refine okX6_misfit_24 (I24 := fun x2' x3 x4 W => x2' = x2 ∧ x4 = nI (0 + 1) ∧ TH X W ∧ WS W 2 (gHours (upd n 3 x2) T h m 0).1 m T (h + 0) (738 * (h : Int) + 738 * ((0 : Nat) : Int)) ∧ x3.toInt = gOff (upd n 3 x2) T h m row (0 + 1) ∧ 0 < k) s (by omega) x2 _ _ W (fun x2' x3 x4 W z => ?_) ?_
    · obtain ⟨rfl, rfl, z1, z2, z3, z4⟩ := z
      exact L (k - 1) 0 (by omega) W x3 z1 z2 z3
    · unfold wpX6_misfit_24
      rw [z1 4 s (by unfold thk footB; omega), h1]
      refine ⟨fun c => ?_, fun c => ⟨fun _ => ?_, fun c2 => absurd (by decide) c2⟩⟩
      · have := (nI_leI (b := 0) (by omega) (by omega)).mp c
        have e : k = 0 := by omega
        subst e
        exact hp W 0 z1 rfl
      · have hk0 : 0 < k := by
          rcases Nat.eq_zero_or_pos k with e | e
          · subst e; exact absurd (by decide) c
          · exact e
        exact F 0 W 0 _ _ hk0 z1 z2 rfl (fun x hx => ⟨rfl, nI_1 0, z1, z2, hx, hk0⟩)
  · unfold wpX6_misfit_0
    refine x_become (by omega) (by omega) (by omega) hS (fun V1 hS1 hF1 => ⟨rfl, fun V2 e2 => ⟨rfl, rfl, rfl, ?_, ?_⟩⟩)
    · exact (TH.fb hF1).tr (TH.fr (by rw [e2]; exact FR.rf.mu2))
    · rw [show 738 * (h : Int) + 738 * ((0 : Nat) : Int) = 738 * (h : Int) by omega, e2]
      exact hS1.fr2 (hS1.1.set 3 (by omega) (by omega) y) FR.rf.mu2 hI3 (fun i hi => up_n (by omega))
end OPS11
