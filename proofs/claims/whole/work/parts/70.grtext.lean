/-! ===== texts: what a text leaves ===== -/
section GRT
variable {d D g : Nat} {V W X M X1 M1 : Mem} {P : Option AV → Mem → Prop} {v m h T i j k r t u q m1 h1 s p e st en so so0 L st1 en1 so1 pr ao key lst nb l o T1 w : Nat} {tp ts n n1 : NF} {a b c x y z kk ss c0 sg : Int32} {stk code ops S out ys : List Int32} {B : Int}
theorem GR.tx (hN : NowR X M m T h) (hR : Rst X M T) (hX : ∀ r i, ¬ (r = 0 ∧ i = 0) → ¬ r = 6 → ¬ r = 18 → X1 r i = X r i) (hX0 : ∀ k, ¬ k = 6 → X1 0 0 k = X 0 0 k) (h06 : X1 0 0 6 = 0) (hM : ∀ r, ¬ r = 24 → ¬ r = 32 → ¬ r = 33 → ¬ r = 34 → M1 r 0 = M r 0) (hM0 : ∀ k, k = 3 ∨ k = 32 → M1 24 0 k = M 24 0 k) (h246 : M1 24 0 6 = 0) : GR X1 M1 := by
  have hM' : ∀ r, 24 < r → r < 32 ∨ 34 < r → M1 r 0 = M r 0 := fun r _ _ => hM r (by omega) (by omega) (by omega) (by omega)
  refine GR.any hN hR (fun r i q => hX r i (by omega) (by omega) (by omega)) (fun i hi => hX 3 i (by omega) (by omega) (by omega)) (hX0 4 (by omega)) (hM' 25 (by omega) (by omega)) (hM' 26 (by omega) (by omega)) (hM0 3 (by omega)) (hM' 30 (by omega) (by omega)) (hM' 31 (by omega) (by omega)) (fun t ht => ?_) (fun t ht => ?_) ?_ ?_
  · exact (hR.2.1 t ht).eq (hX 4 t (by omega) (by omega) (by omega)) (hX 23 t (by omega) (by omega) (by omega)) (by rw [hM' 37 (by omega) (by omega)]) (by rw [hM' 38 (by omega) (by omega)]) (fun k hk => by rw [hM' 39 (by omega) (by omega)])
  · exact (hR.2.2.1 t ht).eq (hX 5 t (by omega) (by omega) (by omega)) (hX 3 _ (by omega) (by omega) (by omega)) (hX 4 _ (by omega) (by omega) (by omega)) (hX 23 _ (by omega) (by omega) (by omega)) (by rw [hM' 40 (by omega) (by omega)]) (by rw [hM' 41 (by omega) (by omega)]) (by rw [hM' 42 (by omega) (by omega)]) (fun k hk => by rw [hM' 43 (by omega) (by omega)])
  · exact ⟨0, by omega, h06, h246, fun k hk => absurd hk (by omega)⟩
  · exact hR.2.2.2.2.1.eq (hX0 11 (by omega)) (hM0 32 (by omega)) (hX 21 0 (by omega) (by omega) (by omega)) (hM' 45 (by omega) (by omega))
/-- a world stays when only what stands behind its laws changes -/
theorem WS.eqL (hS : WS X w n m T h B) (e2 : X1 2 w = X 2 w) (e14 : X1 14 w = X 14 w) (e15 : X1 15 w = X 15 w) (e16 : X1 16 w = X 16 w) (e3 : ∀ i, i < 8 → X1 3 (8 * w + i) = X 3 (8 * w + i)) (e7 : ∀ t, t < T → X1 7 0 t = X 7 0 t) (e8 : ∀ t, t < T → X1 8 0 t = X 8 0 t) (e9 : ∀ t, t < T → X1 9 0 t = X 9 0 t) (e11 : ∀ t, t < T → X1 11 t = X 11 t) : WS X1 w n m T h B := by
  obtain ⟨h1, h2, h3, h4, h5, h6, h7⟩ := hS
  refine ⟨h1.eq e2 e14 e15 e3, h2, h3, h4, fun t ht => ?_, fun k hk => ?_, h7⟩
  · rw [e7 t ht, e8 t ht, e9 t ht, e11 t ht]
    exact h5 t ht
  · rw [e16]
    exact h6 k hk
theorem WI.low (hI : WI n m B) (hm : m ≤ 8) (e : ∀ j, j < 107 → ¬ j = 10 → n1 j = n j) : WI n1 m B := by
  obtain ⟨p1, p4, p5, p6, p7, p9, pm⟩ := hI
  refine ⟨fun i hi => (p1 i hi).eq (fun k hk => e _ (by omega) (by omega)), ?_, ?_, ?_, ?_, ?_, ?_⟩
  · rw [e 4 (by omega) (by omega)]; exact p4
  · rw [e 5 (by omega) (by omega)]; exact p5
  · rw [e 6 (by omega) (by omega)]; exact p6
  · rw [e 7 (by omega) (by omega)]; exact p7
  · rw [e 9 (by omega) (by omega)]; exact p9
  · rw [msr_cong m (fun i hi => ⟨e _ (by omega) (by omega), e _ (by omega) (by omega)⟩), e 4 (by omega) (by omega), e 5 (by omega) (by omega), e 6 (by omega) (by omega), e 7 (by omega) (by omega), e 9 (by omega) (by omega)]; exact pm
theorem GR.law (hN : NowR X M m T h) (hR : Rst X M T) (hT : T < 14) (hk : key < 3) (hl : out.length ≤ 96) (hv : vd (nbk key) out 0 = some 1)
    (hX : ∀ r i, ¬ (r = 0 ∧ i = 0) → ¬ (r = 2 ∧ i = 0) → ¬ r = 6 → ¬ (r = 7 ∧ i = 0) → ¬ (r = 8 ∧ i = 0) → ¬ (r = 9 ∧ i = 0) → ¬ (r = 11 ∧ i = T) → ¬ (r = 16 ∧ i = 0) → ¬ r = 18 → X1 r i = X r i) (hX0 : ∀ k, ¬ k = 6 → X1 0 0 k = X 0 0 k) (h06 : X1 0 0 6 = 0)
    (h2 : X1 2 0 = upd (X 2 0) 5 (nI (T + 1))) (h7 : X1 7 0 = upd (X 7 0) T (nI key)) (h8 : X1 8 0 = upd (X 8 0) T (nI ao)) (h9 : X1 9 0 = upd (X 9 0) T (nI out.length)) (h11 : ∀ (i : Nat) (c : Int32), out[i]? = some c → X1 11 T i = trc c) (h16 : X1 16 0 = upd (X 16 0) key (nI T))
    (hM : ∀ r, ¬ r = 24 → ¬ r = 25 → ¬ r = 32 → ¬ r = 33 → ¬ r = 34 → M1 r 0 = M r 0) (hM0 : ∀ k, k = 3 ∨ k = 32 → M1 24 0 k = M 24 0 k) (h246 : M1 24 0 6 = 0)
    (n10 : M1 25 0 10 = nI (T + 1)) (n107 : M1 25 0 (107 + 2 * T) = nI (1000 * key + out.length)) (n108 : M1 25 0 (108 + 2 * T) = nI ao) (n135 : ∀ (i : Nat) (c : Int32), out[i]? = some c → M1 25 0 (135 + 96 * T + i) = c) (no : ∀ j, ¬ j = 10 → ¬ j = 107 + 2 * T → ¬ j = 108 + 2 * T → ¬ (135 + 96 * T ≤ j ∧ j < 135 + 96 * T + out.length) → M1 25 0 j = M 25 0 j) : GR X1 M1 := by
  obtain ⟨hS, hh⟩ := hN
  obtain ⟨q1, q2, q3, q4, q5, q6, q7⟩ := id hS
  have hm := q1.2.1
  obtain ⟨t1', t2', t3⟩ := id q4
  have low : ∀ j, j < 107 → ¬ j = 10 → M1 25 0 j = M 25 0 j := fun j j1 j2 => no j j2 (by omega) (by omega) (by omega)
  have old : ∀ t, t < T → M1 25 0 (107 + 2 * t) = M 25 0 (107 + 2 * t) ∧ M1 25 0 (108 + 2 * t) = M 25 0 (108 + 2 * t) ∧ ∀ k, k < 96 → M1 25 0 (135 + 96 * t + k) = M 25 0 (135 + 96 * t + k) := fun t ht => ⟨no _ (by omega) (by omega) (by omega) (by omega), no _ (by omega) (by omega) (by omega) (by omega), fun k hk => no _ (by omega) (by omega) (by omega) (by omega)⟩
  have eL : lawL (M1 25 0) T = out.length := lawL_eq n107 hk hl
  have xe : ∀ r i, (r = 14 ∨ r = 15 ∨ r = 3 ∨ r = 4 ∨ r = 5 ∨ r = 17 ∨ r = 21 ∨ r = 23) → X1 r i = X r i := fun r i q => hX r i (by omega) (by omega) (by omega) (by omega) (by omega) (by omega) (by omega) (by omega) (by omega)
  have mm : ∀ r, (25 < r ∧ r < 32) ∨ 34 < r → M1 r 0 = M r 0 := fun r q => hM r (by omega) (by omega) (by omega) (by omega) (by omega)
  have div : (nI (1000 * key + out.length) : Int32) / 1000 = nI key := by
    rw [show (1000 : Int32) = nI 1000 from rfl, pk_div (by omega) (by decide) (by decide)]
    exact congrArg nI (by omega)
  refine ⟨m, T + 1, h, ⟨⟨⟨?_, hm, fun k hk => ?_⟩, q2.low hm low, q3.eq (fun j j1 j2 => low j (by omega) (by omega)), ⟨n10, by omega, fun t ht => ?_⟩, fun t ht => ?_, fun k hk3 => ?_, by rw [low 2 (by omega) (by omega)]; exact q7⟩, hh⟩, ?_, fun t ht => ?_, fun t ht => ?_, ?_, ?_, ?_⟩
  · rw [low 1 (by omega) (by omega)]; exact q1.1
  · have hv := q1.2.2 k hk
    unfold vw at hv ⊢
    by_cases k11 : k < 11
    · rw [if_pos k11] at hv ⊢
      by_cases e : k = 10
      · subst e
        rw [h2, n10]
        exact up_s _ _ _
      · rw [low k (by omega) e, ← hv, h2, up_n]
        intro z
        exact e (fld_inj k k11 10 (by omega) z)
    · rw [if_neg k11] at hv ⊢
      rw [low k (by omega) (by omega), ← hv]
      rw [xe 14 0 (by omega), xe 15 0 (by omega), xe 3 _ (by omega)]
  · by_cases e : t = T
    · subst e
      refine ⟨key, out.length, hk, hl, n107, ?_⟩
      rw [vdep_vd (f := lawC (M1 25 0) t) (l := out) (fun i c hc => n135 i c hc) out.length (Nat.le_refl _), List.take_length]
      exact hv
    · obtain ⟨key', L', u1, u2, u3, u4⟩ := t3 t (by omega)
      obtain ⟨o1, o2, o3⟩ := old t (by omega)
      refine ⟨key', L', u1, u2, o1.trans u3, ?_⟩
      rw [vdep_cong (c := lawC (M 25 0) t) (c1 := lawC (M1 25 0) t) L' (fun j hj => o3 j (by omega))]
      exact u4
  · by_cases e : t = T
    · subst e
      rw [eL, h9, h7, h8, up_s, up_s, up_s, n107, n108, div]
      refine ⟨rfl, rfl, rfl, fun k hk => ?_⟩
      have hg := List.getElem?_eq_getElem hk
      rw [n135 k _ hg]
      exact h11 k _ hg
    · obtain ⟨o1, o2, o3⟩ := old t (by omega)
      obtain ⟨key', L', u1, u2, u3, u4⟩ := t3 t (by omega)
      have eL' : lawL (M 25 0) t = L' := lawL_eq u3 u1 u2
      obtain ⟨v1, v2, v3, v4⟩ := q5 t (by omega)
      rw [lawL_cong o1, o1, o2, h9, h7, h8, up_n e, up_n e, up_n e, hX 11 t (by omega) (by omega) (by omega) (by omega) (by omega) (by omega) (by omega) (by omega) (by omega)]
      refine ⟨v1, v2, v3, fun k hk => ?_⟩
      rw [o3 k (by omega)]
      exact v4 k hk
  · rw [h16, gCt, n107, div]
    by_cases e : k = key
    · subst e
      rw [up_s, if_pos rfl, if_neg (nI_pos (by omega))]
    · rw [up_n e, if_neg (fun z => e ((nI_eq (by omega) (by omega)).mp z).symm), gCt_cong T (fun t ht => (old t ht).1)]
      exact q6 k hk3
  · have i1 := hR.1
    unfold ImgR at i1 ⊢
    rw [hX0 4 (by omega), hM0 3 (by omega), mm 26 (by omega)]
    refine ⟨i1.1, i1.2.imp id (fun z => ⟨z.1, ?_⟩)⟩
    obtain ⟨m1, T1, h1', y1, y2, y3⟩ := z.2
    have x1 : ∀ r, (r = 2 ∨ r = 16) → X1 r 1 = X r 1 := fun r q => hX r 1 (by omega) (by omega) (by omega) (by omega) (by omega) (by omega) (by omega) (by omega) (by omega)
    exact ⟨m1, T1, h1', y1.eqL (x1 2 (by omega)) (xe 14 1 (by omega)) (xe 15 1 (by omega)) (x1 16 (by omega)) (fun i _ => xe 3 _ (by omega)) (fun t ht => by rw [h7, up_n (by omega)]) (fun t ht => by rw [h8, up_n (by omega)]) (fun t ht => by rw [h9, up_n (by omega)]) (fun t ht => hX 11 t (by omega) (by omega) (by omega) (by omega) (by omega) (by omega) (by omega) (by omega) (by omega)), y2, by omega⟩
  · exact (hR.2.1 t ht).eq (xe 4 t (by omega)) (xe 23 t (by omega)) (by rw [mm 37 (by omega)]) (by rw [mm 38 (by omega)]) (fun k hk => by rw [mm 39 (by omega)])
  · exact (hR.2.2.1 t ht).eq (xe 5 t (by omega)) (xe 3 _ (by omega)) (xe 4 _ (by omega)) (xe 23 _ (by omega)) (by rw [mm 40 (by omega)]) (by rw [mm 41 (by omega)]) (by rw [mm 42 (by omega)]) (fun k hk => by rw [mm 43 (by omega)])
  · exact ⟨0, by omega, h06, h246, fun k hk => absurd hk (by omega)⟩
  · exact hR.2.2.2.2.1.eq (hX0 11 (by omega)) (hM0 32 (by omega)) (xe 21 0 (by omega)) (mm 45 (by omega))
  · have h6 := hR.2.2.2.2.2
    unfold CkR at h6 ⊢
    rw [mm 30 (by omega), mm 31 (by omega)]
    exact h6
end GRT
