/-! ===== what changes beside the worlds ===== -/
section RST
variable {d D : Nat} {V W X M X1 M1 : Mem} {P : Option AV → Mem → Prop} {w v m h T i j k r t u q m1 h1 s : Nat} {n n1 : NF} {a b c x y z kk ss : Int32} {B B1 : Int}
theorem ShR.eq (hS : ShR X M s) (e4 : X1 4 s = X 4 s) (e23 : X1 23 s = X 23 s) (e37 : M1 37 0 s = M 37 0 s) (e38 : M1 38 0 s = M 38 0 s) (e39 : ∀ k, k < 24 → M1 39 0 (24 * s + k) = M 39 0 (24 * s + k)) : ShR X1 M1 s := by
  unfold ShR at hS ⊢
  rw [e4, e23, e37, e38]
  obtain ⟨h1, z, h2, h3, h4, h5, h6⟩ := hS
  exact ⟨h1, z, h2, h3, h4, h5, fun k hk => by rw [e39 k (by omega)]; exact h6 k hk⟩
theorem SlR.eq (hS : SlR X M s) (e5 : X1 5 s = X 5 s) (e3 : X1 3 (24 + s) = X 3 (24 + s)) (e4 : X1 4 (4 + s) = X 4 (4 + s)) (e23 : X1 23 (4 + s) = X 23 (4 + s)) (e40 : M1 40 0 s = M 40 0 s) (e41 : M1 41 0 s = M 41 0 s) (e42 : M1 42 0 s = M 42 0 s) (e43 : ∀ k, k < 24 → M1 43 0 (24 * s + k) = M 43 0 (24 * s + k)) : SlR X1 M1 s := by
  unfold SlR at hS ⊢
  rw [e5, e3, e4, e23, e40, e41, e42]
  refine ⟨hS.1, hS.2.imp id (Or.imp id (Or.imp (fun q => ⟨q.1, ?_⟩) id))⟩
  obtain ⟨z, h2, h3, h4, h5⟩ := q.2
  exact ⟨z, h2, h3, h4, fun k hk => by rw [e43 k (by omega)]; exact h5 k hk⟩
theorem TpR.eq (hS : TpR X M) (e6 : X1 0 0 6 = X 0 0 6) (e6' : M1 24 0 6 = M 24 0 6) (e17 : X1 17 0 = X 17 0) (e29 : M1 29 0 = M 29 0) : TpR X1 M1 := by
  unfold TpR at hS ⊢
  rw [e6, e6', e17, e29]
  exact hS
theorem WtR.eq (hS : WtR X M) (e6 : X1 0 0 11 = X 0 0 11) (e6' : M1 24 0 32 = M 24 0 32) (e17 : X1 21 0 = X 21 0) (e29 : M1 45 0 = M 45 0) : WtR X1 M1 := by
  unfold WtR at hS ⊢
  rw [e6, e6', e17, e29]
  exact hS
theorem GR.any (hN : NowR X M m T h) (hR : Rst X M T) (eX : ∀ r i, (r = 2 ∨ r = 7 ∨ r = 8 ∨ r = 9 ∨ r = 11 ∨ r = 14 ∨ r = 15 ∨ r = 16) → X1 r i = X r i) (eX3 : ∀ i, i < 16 → X1 3 i = X 3 i) (e4 : X1 0 0 4 = X 0 0 4) (e25 : M1 25 0 = M 25 0) (e26 : M1 26 0 = M 26 0) (e3 : M1 24 0 3 = M 24 0 3) (h30 : M1 30 0 = M 30 0) (h31 : M1 31 0 = M 31 0)
    (hSh : ∀ s, s < 4 → ShR X1 M1 s) (hSl : ∀ s, s < 5 → SlR X1 M1 s) (hTp : TpR X1 M1) (hWt : WtR X1 M1) : GR X1 M1 := by
  refine ⟨m, T, h, ⟨?_, hN.2⟩, ?_, hSh, hSl, hTp, hWt, ?_⟩
  · rw [e25]
    exact hN.1.eq (eX 2 0 (by omega)) (eX 14 0 (by omega)) (eX 15 0 (by omega)) (eX 16 0 (by omega)) (fun i hi => eX3 _ (by omega)) (eX 7 0 (by omega)) (eX 8 0 (by omega)) (eX 9 0 (by omega)) (fun t _ => eX 11 t (by omega))
  · have h1 := hR.1
    unfold ImgR at h1 ⊢
    rw [e4, e3, e26]
    refine ⟨h1.1, h1.2.imp id (fun q => ⟨q.1, ?_⟩)⟩
    obtain ⟨m1, T1, h1', q1, q2, q3⟩ := q.2
    exact ⟨m1, T1, h1', q1.eq (eX 2 1 (by omega)) (eX 14 1 (by omega)) (eX 15 1 (by omega)) (eX 16 1 (by omega)) (fun i hi => eX3 _ (by omega)) (eX 7 0 (by omega)) (eX 8 0 (by omega)) (eX 9 0 (by omega)) (fun t _ => eX 11 t (by omega)), q2, q3⟩
  · have h6 := hR.2.2.2.2.2
    unfold CkR at h6 ⊢
    rw [h30, h31]
    exact h6
/-- one sheet changes -/
theorem GR.sh (hN : NowR X M m T h) (hR : Rst X M T) (hs : s < 4) (hX : ∀ r i, ¬ (r = 4 ∧ i = s) → ¬ (r = 23 ∧ i = s) → X1 r i = X r i) (hM : ∀ r, ¬ r = 37 → ¬ r = 38 → ¬ r = 39 → M1 r 0 = M r 0) (h37 : ∀ t, ¬ t = s → M1 37 0 t = M 37 0 t) (h38 : ∀ t, ¬ t = s → M1 38 0 t = M 38 0 t) (h39 : ∀ p, ¬ (24 * s ≤ p ∧ p < 24 * s + 24) → M1 39 0 p = M 39 0 p) (hS : ShR X1 M1 s) : GR X1 M1 := by
  have x0 : X1 0 0 = X 0 0 := hX 0 0 (by omega) (by omega)
  have m24 : M1 24 0 = M 24 0 := hM 24 (by omega) (by omega) (by omega)
  refine GR.any hN hR (fun r i q => hX r i (by omega) (by omega)) (fun i hi => hX 3 i (by omega) (by omega)) (by rw [x0]) (hM 25 (by omega) (by omega) (by omega)) (hM 26 (by omega) (by omega) (by omega)) (by rw [m24]) (hM 30 (by omega) (by omega) (by omega)) (hM 31 (by omega) (by omega) (by omega)) (fun t ht => ?_) (fun t ht => ?_) ?_ ?_
  · by_cases e : t = s
    · rw [e]; exact hS
    · exact (hR.2.1 t ht).eq (hX 4 t (by omega) (by omega)) (hX 23 t (by omega) (by omega)) (h37 t e) (h38 t e) (fun k hk => h39 _ (by omega))
  · exact (hR.2.2.1 t ht).eq (hX 5 t (by omega) (by omega)) (hX 3 _ (by omega) (by omega)) (hX 4 _ (by omega) (by omega)) (hX 23 _ (by omega) (by omega)) (by rw [hM 40 (by omega) (by omega) (by omega)]) (by rw [hM 41 (by omega) (by omega) (by omega)]) (by rw [hM 42 (by omega) (by omega) (by omega)]) (fun k hk => by rw [hM 43 (by omega) (by omega) (by omega)])
  · exact hR.2.2.2.1.eq (by rw [x0]) (by rw [m24]) (hX 17 0 (by omega) (by omega)) (hM 29 (by omega) (by omega) (by omega))
  · exact hR.2.2.2.2.1.eq (by rw [x0]) (by rw [m24]) (hX 21 0 (by omega) (by omega)) (hM 45 (by omega) (by omega) (by omega))
/-- the tape changes -/
theorem GR.tp (hN : NowR X M m T h) (hR : Rst X M T) (hX : ∀ r i, ¬ (r = 0 ∧ i = 0) → ¬ (r = 17 ∧ i = 0) → X1 r i = X r i) (hX0 : ∀ k, ¬ k = 6 → X1 0 0 k = X 0 0 k) (hM : ∀ r, ¬ r = 24 → ¬ r = 29 → M1 r 0 = M r 0) (hM0 : ∀ k, ¬ k = 6 → M1 24 0 k = M 24 0 k) (hT : TpR X1 M1) : GR X1 M1 := by
  refine GR.any hN hR (fun r i q => hX r i (by omega) (by omega)) (fun i hi => hX 3 i (by omega) (by omega)) (hX0 4 (by omega)) (hM 25 (by omega) (by omega)) (hM 26 (by omega) (by omega)) (hM0 3 (by omega)) (hM 30 (by omega) (by omega)) (hM 31 (by omega) (by omega)) (fun t ht => ?_) (fun t ht => ?_) hT ?_
  · exact (hR.2.1 t ht).eq (hX 4 t (by omega) (by omega)) (hX 23 t (by omega) (by omega)) (by rw [hM 37 (by omega) (by omega)]) (by rw [hM 38 (by omega) (by omega)]) (fun k hk => by rw [hM 39 (by omega) (by omega)])
  · exact (hR.2.2.1 t ht).eq (hX 5 t (by omega) (by omega)) (hX 3 _ (by omega) (by omega)) (hX 4 _ (by omega) (by omega)) (hX 23 _ (by omega) (by omega)) (by rw [hM 40 (by omega) (by omega)]) (by rw [hM 41 (by omega) (by omega)]) (by rw [hM 42 (by omega) (by omega)]) (fun k hk => by rw [hM 43 (by omega) (by omega)])
  · exact hR.2.2.2.2.1.eq (hX0 11 (by omega)) (hM0 32 (by omega)) (hX 21 0 (by omega) (by omega)) (hM 45 (by omega) (by omega))
theorem op_trim (hG : GR X M) : OP (d + 12) mX6_trim mX7_trim [aI a] X M := by
  obtain ⟨m, T, h, hN, hR⟩ := id hG
  obtain ⟨L, l1, l2, l3, l4⟩ := id hR.2.2.2.1
  refine clX6_trim a X ?_
  unfold wpX6_trim_0
  have S : ∀ (a0 : Int32) (X1 : Mem), wpX7_trim_0 (Cl UM (d + 11)) a M (fun v2 M1 => v2 = some (aI a0) ∧ GR X1 M1) → Cl UM (d + 12) mX7_trim [aR 24 0, aI a] M (fun v2 M1 => v2 = some (aI a0) ∧ GR X1 M1) := fun a0 X1 q => clX7_trim a M q
  unfold wpX7_trim_0 at S
  rw [l2]
  rw [l3] at S
  by_cases hc : 0 ≤ a ∧ a ≤ nI L
  · obtain ⟨k, hk, ea⟩ := in_nI (N := L) (by omega) hc
    refine xwT hc ⟨_, rfl, t2 (fun X1 e1 => ⟨a, rfl, S _ _ ?_⟩)⟩
    refine rwT hc ⟨_, rfl, t2 (fun M1 g1 => ⟨rfl, ?_⟩)⟩
    refine GR.tp hN hR (fun r i q _ => by rw [e1, mu_eq, ma_ne q]) (fun k hk => by rw [e1, mu_sn hk]) (fun r q _ => by rw [g1, mu_o q]) (fun k hk => by rw [g1, mu_sn hk]) ?_
    refine ⟨k, by omega, by rw [e1, mu_sk, ea], by rw [g1, mu_sk, ea], fun i hi => ?_⟩
    rw [e1, g1, mu_o (by decide), mu_o (by decide)]
    exact l4 i (by omega)
  · exact xwF hc ⟨_, rfl, f2 ⟨_, rfl, S _ _ (rwF hc ⟨_, rfl, f2 ⟨rfl, hG⟩⟩)⟩⟩
end RST
