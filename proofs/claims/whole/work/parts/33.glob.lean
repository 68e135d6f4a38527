/-! ===== class and reference side by side ===== -/
section GLOB
variable {d D : Nat} {V W X M X1 M1 : Mem} {P : Option AV → Mem → Prop} {w m h T i j k r t u q : Nat} {n : NF} {a b c x y z : Int32} {B : Int}
theorem RW.eq (hR : RW X w n m) (e2 : X1 2 w = X 2 w) (e14 : X1 14 w = X 14 w) (e15 : X1 15 w = X 15 w) (e3 : ∀ i, i < 8 → X1 3 (8 * w + i) = X 3 (8 * w + i)) : RW X1 w n m := by
  refine ⟨hR.1, hR.2.1, fun k hk => ?_⟩
  have hm := hR.2.1
  rw [← hR.2.2 k hk]
  unfold vw
  split
  · rw [e2]
  · split
    · rw [e14]
    · split
      · rw [e15]
      · rw [e3 _ (by omega)]
theorem WS.eq (hS : WS X w n m T h B) (e2 : X1 2 w = X 2 w) (e14 : X1 14 w = X 14 w) (e15 : X1 15 w = X 15 w) (e16 : X1 16 w = X 16 w) (e3 : ∀ i, i < 8 → X1 3 (8 * w + i) = X 3 (8 * w + i)) (e7 : X1 7 0 = X 7 0) (e8 : X1 8 0 = X 8 0) (e9 : X1 9 0 = X 9 0) (e11 : ∀ t, t < T → X1 11 t = X 11 t) : WS X1 w n m T h B := by
  obtain ⟨h1, h2, h3, h4, h5, h6, h7⟩ := hS
  refine ⟨h1.eq e2 e14 e15 e3, h2, h3, h4, fun t ht => ?_, fun k hk => ?_, h7⟩
  · rw [e7, e8, e9, e11 t ht]
    exact h5 t ht
  · rw [e16]
    exact h6 k hk
def NowR (X M : Mem) (m T h : Nat) : Prop := WS X 0 (M 25 0) m T h (738 * (h : Int)) ∧ h ≤ 9999
def ImgR (X M : Mem) (T : Nat) : Prop := X 0 0 4 = M 24 0 3 ∧ (M 24 0 3 = 0 ∨ M 24 0 3 = 1 ∧ ∃ m1 T1 h1, WS X 1 (M 26 0) m1 T1 h1 (738 * (h1 : Int)) ∧ h1 ≤ 9999 ∧ T1 ≤ T)
def ShR (X M : Mem) (s : Nat) : Prop := X 4 s 0 = M 37 0 s ∧ ∃ z, z ≤ 24 ∧ X 4 s 1 = nI z ∧ M 38 0 s = nI z ∧ ((M 37 0 s = -1 ∧ z = 0) ∨ M 37 0 s = 0 ∨ M 37 0 s = 1) ∧ ∀ k, k < z → X 23 s k = M 39 0 (24 * s + k) ∧ (X 23 s k = -1000000005 ∨ (-99999 ≤ (X 23 s k).toInt ∧ (X 23 s k).toInt ≤ 99999))
def SlR (X M : Mem) (s : Nat) : Prop := X 5 s 0 = M 40 0 s ∧ (M 40 0 s = 0 ∨ (M 40 0 s = 1 ∧ X 3 (24 + s) 0 = M 41 0 s ∧ wrt (X 3 (24 + s) 0) (X 3 (24 + s) 1) = M 42 0 s ∧ (0 ≤ (X 3 (24 + s) 0).toInt ∧ (X 3 (24 + s) 0).toInt ≤ 5) ∧ (0 ≤ (X 3 (24 + s) 1).toInt ∧ (X 3 (24 + s) 1).toInt ≤ 9)) ∨
  (M 40 0 s = 2 ∧ ∃ z, z ≤ 24 ∧ X 4 (4 + s) 1 = nI z ∧ M 41 0 s = nI z ∧ ∀ k, k < z → X 23 (4 + s) k = M 43 0 (24 * s + k)) ∨ (M 40 0 s = 3 ∧ X 5 s 1 = M 41 0 s))
def TpR (X M : Mem) : Prop := ∃ L, L ≤ 96 ∧ X 0 0 6 = nI L ∧ M 24 0 6 = nI L ∧ ∀ k, k < L → X 17 0 k = M 29 0 k ∧ ∃ b, b < 256 ∧ X 17 0 k = nI b
def WtR (X M : Mem) : Prop := ∃ L, L ≤ 60 ∧ X 0 0 11 = nI L ∧ M 24 0 32 = nI L ∧ ∀ k, k < L → X 21 0 k = M 45 0 k
def kch : Nat → Int32 := fun k => match k with
  | 0 => 109 | 1 => 101 | 2 => 108 | 3 => 116 | 4 => 111 | 5 => 119 | 6 => 110 | 7 => 101 | 8 => 114 | 9 => 102 | 10 => 105 | 11 => 110 | _ => 101
def kat : Nat → Int32 := fun k => match k with
  | 0 => 0 | 1 => 4 | 2 => 9 | _ => 13
def CkR (M : Mem) : Prop := (∀ k, k < 13 → M 30 0 k = kch k) ∧ ∀ k, k < 4 → M 31 0 k = kat k
def Rst (X M : Mem) (T : Nat) : Prop := ImgR X M T ∧ (∀ s, s < 4 → ShR X M s) ∧ (∀ s, s < 5 → SlR X M s) ∧ TpR X M ∧ WtR X M ∧ CkR M
def GR (X M : Mem) : Prop := ∃ m T h, NowR X M m T h ∧ Rst X M T
/-- the rest stays when only the world of now changes -/
def nowX (r i : Nat) : Prop := (r = 2 ∧ i = 0) ∨ (r = 14 ∧ i = 0) ∨ (r = 15 ∧ i = 0) ∨ (r = 16 ∧ i = 0) ∨ (r = 3 ∧ i < 8) ∨ r = 12 ∨ (r = 2 ∧ i = 2) ∨ (r = 14 ∧ i = 2) ∨ (r = 15 ∧ i = 2) ∨ (r = 16 ∧ i = 2) ∨ (r = 3 ∧ 16 ≤ i ∧ i < 24) ∨ r = 22 ∨ r = 6 ∨ r = 18
def nowM (r : Nat) : Prop := r = 25 ∨ r = 27 ∨ r = 28 ∨ r = 35 ∨ r = 36 ∨ r = 32 ∨ r = 33 ∨ r = 34 ∨ r = 44
theorem nX_o {r i : Nat} (h : (r == 2 || r == 3 || r == 12 || r == 14 || r == 15 || r == 16 || r == 22 || r == 6 || r == 18) = false) : ¬ nowX r i := by
  simp only [Bool.or_eq_false_iff, beq_eq_false_iff_ne, ne_eq] at h
  obtain ⟨⟨⟨⟨⟨⟨⟨⟨a1, a2⟩, a3⟩, a4⟩, a5⟩, a6⟩, a7⟩, a8⟩, a9⟩ := h
  intro q
  rcases q with q | q | q | q | q | q | q | q | q | q | q | q | q | q
  · exact a1 q.1
  · exact a4 q.1
  · exact a5 q.1
  · exact a6 q.1
  · exact a2 q.1
  · exact a3 q
  · exact a1 q.1
  · exact a4 q.1
  · exact a5 q.1
  · exact a6 q.1
  · exact a2 q.1
  · exact a7 q
  · exact a8 q
  · exact a9 q
theorem nX_1 {r : Nat} (h : r = 2 ∨ r = 14 ∨ r = 15 ∨ r = 16) : ¬ nowX r 1 := by
  intro q
  rcases q with q | q | q | q | q | q | q | q | q | q | q | q | q | q <;> omega
theorem nX_3 {i : Nat} (h : (8 ≤ i ∧ i < 16) ∨ 24 ≤ i) : ¬ nowX 3 i := by
  intro q
  rcases q with q | q | q | q | q | q | q | q | q | q | q | q | q | q <;> omega
theorem nM_o {r : Nat} (h : (r == 25 || r == 27 || r == 28 || r == 35 || r == 36 || r == 32 || r == 33 || r == 34 || r == 44) = false) : ¬ nowM r := by
  simp only [Bool.or_eq_false_iff, beq_eq_false_iff_ne, ne_eq] at h
  unfold nowM
  omega
theorem Rst.eq (hR : Rst X M T) (eX : ∀ r i, ¬ nowX r i → X1 r i = X r i) (eM : ∀ r, ¬ nowM r → M1 r 0 = M r 0) : Rst X1 M1 T := by
  obtain ⟨h1, h2, h3, h4, h5, h6⟩ := hR
  have x0 : X1 0 0 = X 0 0 := eX 0 0 (nX_o rfl)
  have m24 : M1 24 0 = M 24 0 := eM 24 (nM_o rfl)
  refine ⟨?_, fun s hs => ?_, fun s hs => ?_, ?_, ?_, ?_⟩
  · unfold ImgR
    rw [x0, m24, eM 26 (nM_o rfl)]
    refine ⟨h1.1, h1.2.imp id (fun q => ⟨q.1, ?_⟩)⟩
    obtain ⟨m1, T1, h1', q1, q2, q3⟩ := q.2
    exact ⟨m1, T1, h1', q1.eq (eX 2 1 (nX_1 (by omega))) (eX 14 1 (nX_1 (by omega))) (eX 15 1 (nX_1 (by omega))) (eX 16 1 (nX_1 (by omega))) (fun i hi => eX 3 (8 * 1 + i) (nX_3 (by omega))) (eX 7 0 (nX_o rfl)) (eX 8 0 (nX_o rfl)) (eX 9 0 (nX_o rfl)) (fun t _ => eX 11 t (nX_o rfl)), q2, q3⟩
  · have := h2 s hs
    unfold ShR at this ⊢
    rw [eX 4 s (nX_o rfl), eX 23 s (nX_o rfl), eM 37 (nM_o rfl), eM 38 (nM_o rfl), eM 39 (nM_o rfl)]
    exact this
  · have := h3 s hs
    unfold SlR at this ⊢
    rw [eX 5 s (nX_o rfl), eX 3 (24 + s) (nX_3 (by omega)), eX 4 (4 + s) (nX_o rfl), eX 23 (4 + s) (nX_o rfl), eM 40 (nM_o rfl), eM 41 (nM_o rfl), eM 42 (nM_o rfl), eM 43 (nM_o rfl)]
    exact this
  · unfold TpR at h4 ⊢
    rw [x0, m24, eX 17 0 (nX_o rfl), eM 29 (nM_o rfl)]
    exact h4
  · unfold WtR at h5 ⊢
    rw [x0, m24, eX 21 0 (nX_o rfl), eM 45 (nM_o rfl)]
    exact h5
  · unfold CkR at h6 ⊢
    rw [eM 30 (nM_o rfl), eM 31 (nM_o rfl)]
    exact h6
/-- a call of the class and the same of the reference: one answer, and they stay side by side -/
def OP (D : Nat) (mx mm : MI) (as : List AV) (X M : Mem) : Prop := Cl UX D mx (aR 0 0 :: as) X (fun v X1 => ∃ a, v = some (aI a) ∧ Cl UM D mm (aR 24 0 :: as) M (fun v2 M1 => v2 = some (aI a) ∧ GR X1 M1))
theorem foot_now {r i : Nat} (z : foot 0 r i) : nowX r i := by
  rcases z with z | z | z
  · exact Or.inl z
  · exact Or.inr (Or.inr (Or.inr (Or.inr (Or.inl ⟨z.1, by omega⟩))))
  · exact Or.inr (Or.inr (Or.inr (Or.inr (Or.inr (Or.inl z)))))
theorem foot_now2 {r i : Nat} (z : foot 2 r i) : nowX r i := by
  rcases z with z | z | z
  · exact Or.inr (Or.inr (Or.inr (Or.inr (Or.inr (Or.inr (Or.inl z))))))
  · exact Or.inr (Or.inr (Or.inr (Or.inr (Or.inr (Or.inr (Or.inr (Or.inr (Or.inr (Or.inr (Or.inl ⟨z.1, by omega, by omega⟩))))))))))
  · exact Or.inr (Or.inr (Or.inr (Or.inr (Or.inr (Or.inl z)))))
theorem fr_now (hF : FR 0 X X1) : ∀ r i, ¬ nowX r i → X1 r i = X r i := fun r i q => hF r i (fun z => q (foot_now z))
theorem fr_now2 (hF : FR 2 X X1) : ∀ r i, ¬ nowX r i → X1 r i = X r i := fun r i q => hF r i (fun z => q (foot_now2 z))
theorem M3_now {n f s : NF} : ∀ r, ¬ nowM r → M3 M n f s r 0 = M r 0 := fun r q => M3_o (by unfold nowM at q; omega) (by unfold nowM at q; omega) (by unfold nowM at q; omega)
theorem ma_now {f : NF} {r0 : Nat} (h0 : nowM r0) : ∀ r, ¬ nowM r → ma M r0 0 f r 0 = M r 0 := fun r q => ma_o (fun z => q (by rw [z]; exact h0))
/-- common tests -/
theorem x_isKind (hp : P (some (aI (if 0 ≤ a ∧ a ≤ 5 then 1 else 0))) V) : Cl UX (d + 2) mX6_isKind [aI a] V P := by
  refine clX6_isKind a V ?_
  unfold wpX6_isKind_0
  exact x_within ⟨_, rfl, b01, hp⟩
theorem x_isSheet (hp : P (some (aI (if 0 ≤ a ∧ a ≤ 3 then 1 else 0))) V) : Cl UX (d + 2) mX6_isSheet [aI a] V P := by
  refine clX6_isSheet a V ?_
  unfold wpX6_isSheet_0
  exact x_within ⟨_, rfl, b01, hp⟩
theorem x_isSlot (hp : P (some (aI (if 0 ≤ a ∧ a ≤ 4 then 1 else 0))) V) : Cl UX (d + 2) mX6_isSlot [aI a] V P := by
  refine clX6_isSlot a V ?_
  unfold wpX6_isSlot_0
  exact x_within ⟨_, rfl, b01, hp⟩
theorem x_isRoof (hp : P (some (aI (if 0 ≤ a ∧ a ≤ V 2 0 6 - 1 then 1 else 0))) V) : Cl UX (d + 2) mX6_isRoof [aR 0 0, aI a] V P := by
  refine clX6_isRoof a V ?_
  unfold wpX6_isRoof_0
  exact x_within ⟨_, rfl, b01, hp⟩
theorem r_isSheet (hp : P (some (aI (if 0 ≤ a ∧ a ≤ 3 then 1 else 0))) V) : Cl UM (d + 2) mX7_isSheet [aI a] V P := by
  refine clX7_isSheet a V ?_
  unfold wpX7_isSheet_0
  exact r_in ⟨_, rfl, b01, hp⟩
theorem r_isSlot (hp : P (some (aI (if 0 ≤ a ∧ a ≤ 4 then 1 else 0))) V) : Cl UM (d + 2) mX7_isSlot [aI a] V P := by
  refine clX7_isSlot a V ?_
  unfold wpX7_isSlot_0
  exact r_in ⟨_, rfl, b01, hp⟩
/-- a number within bounds is one of these -/
theorem in_nI {a : Int32} {N : Nat} (hN : N < 2 ^ 31) (h : 0 ≤ a ∧ a ≤ nI N) : ∃ j, j ≤ N ∧ a = nI j := by
  obtain ⟨j, h1, h2⟩ := nI_of (x := a) (by rw [ti_lt, ti0]; have := ti_le.mp h.1; rw [ti0] at this; omega)
  exact ⟨j, (nI_leI h1 hN).mp (by rw [← h2]; exact h.2), h2⟩
theorem isRoof_of {a : Int32} (hm : m ≤ 8) (h : 0 ≤ a ∧ a ≤ nI m - 1) : ∃ j, j < m ∧ a = nI j := by
  obtain ⟨j, h1, h2⟩ := nI_of (x := a) (by rw [ti_lt, ti0]; have := ti_le.mp h.1; rw [ti0] at this; omega)
  refine ⟨j, ?_, h2⟩
  have h3 := ti_le.mp h.2
  rw [h2, nI_toInt h1, ti_sub (by rw [nI_toInt (by omega), show (1 : Int32).toInt = 1 from rfl]; omega) (by rw [nI_toInt (by omega), show (1 : Int32).toInt = 1 from rfl]; omega), nI_toInt (by omega), show (1 : Int32).toInt = 1 from rfl] at h3
  omega
end GLOB
