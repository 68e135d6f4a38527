/-! ===== the calls, side by side: roofs ===== -/
theorem t1 {A B : Prop} (h : B) : ((1 : Int32) = 0 → A) ∧ (¬ (1 : Int32) = 0 → B) := ⟨fun c => absurd c (by decide), fun _ => h⟩
theorem t2 {A B : Prop} (h : A) : (¬ (1 : Int32) = 0 → A) ∧ ((1 : Int32) = 0 → B) := ⟨fun _ => h, fun c => absurd c (by decide)⟩
theorem f1 {A B : Prop} (h : A) : ((0 : Int32) = 0 → A) ∧ (¬ (0 : Int32) = 0 → B) := ⟨fun _ => h, fun c => absurd rfl c⟩
theorem f2 {A B : Prop} (h : B) : (¬ (0 : Int32) = 0 → A) ∧ ((0 : Int32) = 0 → B) := ⟨fun c => absurd rfl c, fun _ => h⟩
section OPS1
variable {d D : Nat} {V W X M X1 M1 : Mem} {P : Option AV → Mem → Prop} {w m h T i j k r t u q m1 h1 : Nat} {n n1 : NF} {a b c x y z : Int32} {B B1 : Int}
theorem xwT (hc : b ≤ a ∧ a ≤ c) (hp : P (some (aI 1)) V) : Cl UX (d + 1) mX6_isWithin [aI a, aI b, aI c] V P := x_within (by rw [if_pos hc]; exact hp)
theorem xwF (hc : ¬ (b ≤ a ∧ a ≤ c)) (hp : P (some (aI 0)) V) : Cl UX (d + 1) mX6_isWithin [aI a, aI b, aI c] V P := x_within (by rw [if_neg hc]; exact hp)
theorem rwT (hc : b ≤ a ∧ a ≤ c) (hp : P (some (aI 1)) V) : Cl UM (d + 1) mX7_in [aI a, aI b, aI c] V P := r_in (by rw [if_pos hc]; exact hp)
theorem rwF (hc : ¬ (b ≤ a ∧ a ≤ c)) (hp : P (some (aI 0)) V) : Cl UM (d + 1) mX7_in [aI a, aI b, aI c] V P := r_in (by rw [if_neg hc]; exact hp)
theorem xkT (hc : 0 ≤ a ∧ a ≤ 5) (hp : P (some (aI 1)) V) : Cl UX (d + 2) mX6_isKind [aI a] V P := x_isKind (by rw [if_pos hc]; exact hp)
theorem xkF (hc : ¬ (0 ≤ a ∧ a ≤ 5)) (hp : P (some (aI 0)) V) : Cl UX (d + 2) mX6_isKind [aI a] V P := x_isKind (by rw [if_neg hc]; exact hp)
theorem xrT (e : V 2 0 6 = nI m) (hc : 0 ≤ a ∧ a ≤ nI m - 1) (hp : P (some (aI 1)) V) : Cl UX (d + 2) mX6_isRoof [aR 0 0, aI a] V P := x_isRoof (by rw [e, if_pos hc]; exact hp)
theorem xrF (e : V 2 0 6 = nI m) (hc : ¬ (0 ≤ a ∧ a ≤ nI m - 1)) (hp : P (some (aI 0)) V) : Cl UX (d + 2) mX6_isRoof [aR 0 0, aI a] V P := x_isRoof (by rw [e, if_neg hc]; exact hp)
theorem rrT (e : V 25 0 1 = nI m) (hc : 0 ≤ a ∧ a ≤ nI m - 1) (hp : P (some (aI 1)) V) : Cl UM (d + 2) mX7_isRoof [aR 24 0, aI a] V P := r_isRoof (by rw [e, if_pos hc]; exact hp)
theorem rrF (e : V 25 0 1 = nI m) (hc : ¬ (0 ≤ a ∧ a ≤ nI m - 1)) (hp : P (some (aI 0)) V) : Cl UM (d + 2) mX7_isRoof [aR 24 0, aI a] V P := r_isRoof (by rw [e, if_neg hc]; exact hp)
theorem WS.mod (hS : WS X w n m T h B) (hR : RW X1 w n1 m1) (hI : WI n1 m1 B1) (hs : sky n1) (e10 : n1 10 = n 10) (e107 : ∀ j, 107 ≤ j → n1 j = n j) (e2 : n1 2 = nI h1) (eL : ∀ r i, (r = 7 ∨ r = 8 ∨ r = 9 ∨ r = 11 ∨ r = 16) → X1 r i = X r i) : WS X1 w n1 m1 T h1 B1 := by
  obtain ⟨-, -, -, h4, h5, h6, -⟩ := hS
  refine ⟨hR, hI, hs, h4.cong e10 e107, LW.cong (fun t ht => ?_) e107, CW.cong (fun k hk => ?_) e107, e2⟩
  · rw [eL 7 0 (by omega), eL 8 0 (by omega), eL 9 0 (by omega), eL 11 t (by omega)]
    exact h5 t ht
  · rw [eL 16 w (by omega)]
    exact h6 k hk
theorem fr_L (hF : FR w X X1) : ∀ r i, (r = 7 ∨ r = 8 ∨ r = 9 ∨ r = 11 ∨ r = 16) → X1 r i = X r i := fun r i q => hF r i (fun z => by unfold foot at z; omega)
theorem WI.out {p : Nat} (hI : WI n m B) (hp : p = 0 ∨ p = 1 ∨ p = 2 ∨ p = 3 ∨ p = 8 ∨ (10 ≤ p ∧ p < 59)) : WI (upd n p x) m B := by
  obtain ⟨h1, h4, h5, h6, h7, h9, hm⟩ := hI
  refine ⟨fun i hi => (h1 i hi).out (by omega), ?_, ?_, ?_, ?_, ?_, ?_⟩
  · rw [up_n (by omega)]; exact h4
  · rw [up_n (by omega)]; exact h5
  · rw [up_n (by omega)]; exact h6
  · rw [up_n (by omega)]; exact h7
  · rw [up_n (by omega)]; exact h9
  · rw [msr_out m (fun i hi => by omega), up_n (by omega), up_n (by omega), up_n (by omega), up_n (by omega), up_n (by omega)]; exact hm
theorem sky.out {p : Nat} (hs : sky n) (hp : p < 11 ∨ 59 ≤ p) : sky (upd n p x) := hs.eq (fun j q1 q2 => up_n (by omega))
/-- a number of now's world becomes another one, of those that nothing is said of -/
theorem GR.sc {p : Nat} (hp : p = 0 ∨ p = 3 ∨ p = 8) (hN : NowR X M m T h) (hR : Rst X M T) : GR (mu X 2 0 (fld p) x) (ma M 25 0 (upd (M 25 0) p x)) := by
  obtain ⟨hS, hh⟩ := hN
  obtain ⟨q1, q2, q3, q4, q5, q6, q7⟩ := id hS
  refine ⟨m, T, h, ⟨?_, hh⟩, hR.eq (fr_now (FR.rf.mu2)) (ma_now (Or.inl rfl))⟩
  rw [ma_same]
  exact hS.mod (q1.set p (by omega) (by omega) x) (q2.out (by omega)) (q3.out (by omega)) (up_n (by omega)) (fun j hj => up_n (by omega)) ((up_n (by omega)).trans q7) (fr_L FR.rf.mu2)
theorem op_seed (hG : GR X M) : OP (d + 12) mX6_seed mX7_seed [aI a] X M := by
  obtain ⟨m, T, h, hN, hR⟩ := hG
  have hz : X 2 0 9 = M 25 0 0 := hN.1.1.sc 0 (by omega)
  refine clX6_seed a X ?_
  unfold wpX6_seed_0
  intro z ez X1 e1
  refine ⟨z, rfl, ?_⟩
  refine clX7_seed a M ?_
  unfold wpX7_seed_0
  refine r_becomes (k := 0) rfl (by omega) ⟨_, rfl, by rw [ez, hz], ?_⟩
  rw [e1]
  exact GR.sc (p := 0) (by omega) hN hR
theorem op_sunset (hG : GR X M) : OP (d + 12) mX6_sunset mX7_sunset [aI a] X M := by
  obtain ⟨m, T, h, hN, hR⟩ := id hG
  have hz : X 2 0 7 = M 25 0 3 := hN.1.1.sc 3 (by omega)
  refine clX6_sunset a X ?_
  unfold wpX6_sunset_0
  by_cases hc : 0 ≤ a ∧ a ≤ 24
  · refine xwT hc ⟨_, rfl, t2 (fun z ez X1 e1 => ⟨z, rfl, ?_⟩)⟩
    refine clX7_sunset a M ?_
    unfold wpX7_sunset_0
    refine rwT hc ⟨_, rfl, t1 ?_⟩
    refine r_becomes (k := 3) rfl (by omega) ⟨_, rfl, by rw [ez, hz], ?_⟩
    rw [e1]
    exact GR.sc (p := 3) (by omega) hN hR
  · refine xwF hc ⟨_, rfl, f2 ⟨_, rfl, ?_⟩⟩
    refine clX7_sunset a M ?_
    unfold wpX7_sunset_0
    exact rwF hc ⟨_, rfl, f1 ⟨rfl, hG⟩⟩
/-- a roof more: both rows -/
theorem gComes_at {kk ss : Int32} (k : Nat) (hk : k < 6) : gComes n r kk ss (59 + 6 * r + k) = if k = 0 then kk else if k = 1 then ss else if k = 3 then 100 else 0 := by
  have hz : ∀ q, q ≤ 6 → ∀ j, j < q → zf n r q (59 + 6 * r + j) = 0 := by
    intro q
    induction q with
    | zero => intro _ j hj; omega
    | succ q ih =>
      intro hq j hj
      rw [zf]
      by_cases e : j = q
      · subst e; exact up_s _ _ _
      · rw [up_n (by omega)]; exact ih (by omega) j (by omega)
  unfold gComes
  rw [up_n (by omega)]
  rcases (show k = 0 ∨ k = 1 ∨ k = 2 ∨ k = 3 ∨ k = 4 ∨ k = 5 by omega) with e | e | e | e | e | e
  · subst e; rw [up_n (by omega), up_n (by omega), up_s]; rfl
  · subst e; rw [up_n (by omega), up_s]; rfl
  · subst e; rw [up_n (by omega), up_n (by omega), up_n (by omega), hz 6 (by omega) 2 (by omega)]; rfl
  · subst e; rw [up_s]; rfl
  · subst e; rw [up_n (by omega), up_n (by omega), up_n (by omega), hz 6 (by omega) 4 (by omega)]; rfl
  · subst e; rw [up_n (by omega), up_n (by omega), up_n (by omega), hz 6 (by omega) 5 (by omega)]; rfl
theorem gComes_o {kk ss : Int32} (h1 : ¬ j = 1) (h2 : j < 59 + 6 * r ∨ 65 + 6 * r ≤ j) : gComes n r kk ss j = n j := by
  unfold gComes
  rw [up_n h1, up_n (by omega), up_n (by omega), up_n (by omega), zf_out (by omega)]
theorem gComes_1 {kk ss : Int32} : gComes n r kk ss 1 = nI (r + 1) := up_s _ _ _
theorem msr_cong : ∀ m, (∀ i, i < m → n1 (63 + 6 * i) = n (63 + 6 * i) ∧ n1 (64 + 6 * i) = n (64 + 6 * i)) → msr n1 m = msr n m
  | 0, _ => rfl
  | m + 1, h => by rw [msr, msr, msr_cong m (fun i hi => h i (by omega)), (h m (by omega)).1, (h m (by omega)).2]
theorem WI.comes {kk ss : Int32} (hI : WI n m B) (hk : 0 ≤ kk.toInt ∧ kk.toInt ≤ 5) (hs : 1 ≤ ss.toInt ∧ ss.toInt ≤ 9) : WI (gComes n m kk ss) (m + 1) B := by
  obtain ⟨h1, h4, h5, h6, h7, h9, hm⟩ := hI
  have a0 := gComes_at (n := n) (r := m) (kk := kk) (ss := ss) 0 (by omega)
  have a1 := gComes_at (n := n) (r := m) (kk := kk) (ss := ss) 1 (by omega)
  have a2 := gComes_at (n := n) (r := m) (kk := kk) (ss := ss) 2 (by omega)
  have a3 := gComes_at (n := n) (r := m) (kk := kk) (ss := ss) 3 (by omega)
  have a4 := gComes_at (n := n) (r := m) (kk := kk) (ss := ss) 4 (by omega)
  have a5 := gComes_at (n := n) (r := m) (kk := kk) (ss := ss) 5 (by omega)
  rw [show 59 + 6 * m + 0 = 59 + 6 * m by omega] at a0
  rw [show 59 + 6 * m + 1 = 60 + 6 * m by omega] at a1
  rw [show 59 + 6 * m + 2 = 61 + 6 * m by omega] at a2
  rw [show 59 + 6 * m + 3 = 62 + 6 * m by omega] at a3
  rw [show 59 + 6 * m + 4 = 63 + 6 * m by omega] at a4
  rw [show 59 + 6 * m + 5 = 64 + 6 * m by omega] at a5
  have b0 : gComes n m kk ss (59 + 6 * m) = kk := a0
  have b1 : gComes n m kk ss (60 + 6 * m) = ss := a1
  have b2 : gComes n m kk ss (61 + 6 * m) = 0 := a2
  have b3 : gComes n m kk ss (62 + 6 * m) = 100 := a3
  have b4 : gComes n m kk ss (63 + 6 * m) = 0 := a4
  have b5 : gComes n m kk ss (64 + 6 * m) = 0 := a5
  have c100 : (100 : Int32).toInt = 100 := rfl
  refine ⟨fun i hi => ?_, ?_, ?_, ?_, ?_, ?_, ?_⟩
  · by_cases e : i = m
    · subst e
      unfold rok
      rw [b0, b1, b2, b3, b4, b5, ti0, c100]
      omega
    · exact (h1 i (by omega)).eq (fun k hk => gComes_o (by omega) (by omega))
  · rw [gComes_o (by omega) (by omega)]; exact h4
  · rw [gComes_o (by omega) (by omega)]; exact h5
  · rw [gComes_o (by omega) (by omega)]; exact h6
  · rw [gComes_o (by omega) (by omega)]; exact h7
  · rw [gComes_o (by omega) (by omega)]; exact h9
  · rw [msr, b4, b5, msr_cong m (fun i hi => ⟨gComes_o (by omega) (by omega), gComes_o (by omega) (by omega)⟩), gComes_o (by omega) (by omega), gComes_o (by omega) (by omega), gComes_o (by omega) (by omega), gComes_o (by omega) (by omega), gComes_o (by omega) (by omega), ti0]
    omega
/-- the class's new roof -/
def cBeg (V : Mem) (w r : Nat) (kk ss : Int32) : Mem := mu (mu (mu (mu (mu (mu (mu V 3 (8 * w + r) 0 kk) 3 (8 * w + r) 1 ss) 3 (8 * w + r) 2 0) 3 (8 * w + r) 3 100) 3 (8 * w + r) 4 0) 3 (8 * w + r) 5 0) 2 w 6 (nI (r + 1))
theorem cBeg_fr (hr : r < 8) : FR w V (cBeg V w r x y) := ((((((FR.rf.mu3 hr).mu3 hr).mu3 hr).mu3 hr).mu3 hr).mu3 hr).mu2
theorem cBeg_rf (hk : k < 6) : cBeg V w r x y 3 (8 * w + r) k = if k = 0 then x else if k = 1 then y else if k = 3 then 100 else 0 := by
  unfold cBeg
  rw [mu_o (by decide)]
  rcases (show k = 0 ∨ k = 1 ∨ k = 2 ∨ k = 3 ∨ k = 4 ∨ k = 5 by omega) with e | e | e | e | e | e
  · subst e; rw [mu_sn (by omega), mu_sn (by omega), mu_sn (by omega), mu_sn (by omega), mu_sn (by omega), mu_sk]; rfl
  · subst e; rw [mu_sn (by omega), mu_sn (by omega), mu_sn (by omega), mu_sn (by omega), mu_sk]; rfl
  · subst e; rw [mu_sn (by omega), mu_sn (by omega), mu_sn (by omega), mu_sk]; rfl
  · subst e; rw [mu_sn (by omega), mu_sn (by omega), mu_sk]; rfl
  · subst e; rw [mu_sn (by omega), mu_sk]; rfl
  · subst e; rw [mu_sk]; rfl
theorem cBeg_o {r' : Nat} (h3 : ¬ (r' = 3 ∧ i = 8 * w + r)) (h2 : ¬ (r' = 2 ∧ i = w)) : cBeg V w r x y r' i = V r' i := by
  unfold cBeg
  simp only [mu_eq]
  rw [ma_ne h2, ma_ne h3, ma_ne h3, ma_ne h3, ma_ne h3, ma_ne h3, ma_ne h3]
end OPS1
