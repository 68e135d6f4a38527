/-! ===== the calls, side by side: tell, keep, back ===== -/
section OPS16
variable {d D : Nat} {V W X M X1 M1 : Mem} {P : Option AV → Mem → Prop} {w v m h T i j k r t u q m1 h1 s : Nat} {n n1 : NF} {a b c x y z kk ss : Int32} {B B1 : Int}
theorem vdep_cong {nb : Nat} {c c1 : NF} : ∀ k, (∀ j, j < k → c1 j = c j) → vdep nb c1 k = vdep nb c k
  | 0, _ => rfl
  | k + 1, h => by rw [vdep, vdep, vdep_cong k (fun j hj => h j (by omega)), h k (by omega)]
/-- only the places of the row count -/
theorem WS.row (hS : WS X w n m T h B) (e : ∀ j, j < 1479 → n1 j = n j) : WS X w n1 m T h B := by
  obtain ⟨q1, q2, q3, q4, q5, q6, q7⟩ := hS
  have hm := q1.2.1
  obtain ⟨t1', t2', t3⟩ := q4
  refine ⟨⟨(e 1 (by omega)).trans q1.1, hm, fun k hk => by rw [e k (by omega)]; exact q1.2.2 k hk⟩, ?_, q3.eq (fun j _ _ => e j (by omega)), ⟨(e 10 (by omega)).trans t1', t2', fun t ht => ?_⟩, fun t ht => ?_, fun k hk => ?_, (e 2 (by omega)).trans q7⟩
  · obtain ⟨p1, p4, p5, p6, p7, p9, pm⟩ := q2
    refine ⟨fun i hi => (p1 i hi).eq (fun k hk => e _ (by omega)), ?_, ?_, ?_, ?_, ?_, ?_⟩
    · rw [e 4 (by omega)]; exact p4
    · rw [e 5 (by omega)]; exact p5
    · rw [e 6 (by omega)]; exact p6
    · rw [e 7 (by omega)]; exact p7
    · rw [e 9 (by omega)]; exact p9
    · rw [msr_cong m (fun i hi => ⟨e _ (by omega), e _ (by omega)⟩), e 4 (by omega), e 5 (by omega), e 6 (by omega), e 7 (by omega), e 9 (by omega)]; exact pm
  · obtain ⟨key, L, u1, u2, u3, u4⟩ := t3 t ht
    refine ⟨key, L, u1, u2, (e _ (by omega)).trans u3, ?_⟩
    rw [vdep_cong (c := lawC n t) (c1 := lawC n1 t) L (fun j hj => e (135 + 96 * t + j) (by omega))]
    exact u4
  · obtain ⟨key, L, u1, u2, u3, u4⟩ := t3 t ht
    have eL : lawL n t = L := lawL_eq u3 u1 u2
    obtain ⟨v1, v2, v3, v4⟩ := q5 t ht
    rw [lawL_cong (e (107 + 2 * t) (by omega)), e (107 + 2 * t) (by omega), e (108 + 2 * t) (by omega)]
    refine ⟨v1, v2, v3, fun k hk => ?_⟩
    rw [e _ (by omega)]
    exact v4 k hk
  · rw [gCt_cong T (fun t ht => e _ (by omega))]
    exact q6 k hk
theorem r_copy_25_26 (hp : P none (ma V 26 0 (cpf (V 26 0) (V 25 0) 1479))) : Cl UM (d + 1) mX7_copyAll [aR 25 0, aR 26 0] V P := by
  have L : ∀ q k, k + q = 1479 → Gq (Kp (d + 1) mX7_copyAll UM P) UM cX7_copyAll 3 RX7 2 [(0, aR 25 0), (1, aR 26 0), (2, aI (nI k))] [] (ma V 26 0 (cpf (V 26 0) (V 25 0) k)) := by
    intro q
    induction q with
    | zero =>
      intro k hk
      have hk : k = 1479 := by omega
      subst hk
      refine okX7_copyAll_25_26_2 (I2 := fun _ _ => False) _ _ (fun _ _ q => q.elim) ?_
      unfold wpX7_copyAll_25_26_2
      exact ⟨fun _ => hp, fun c => absurd (by decide) c⟩
    | succ q ih =>
      intro k hk
      refine okX7_copyAll_25_26_2 (I2 := fun x1 W => x1 = nI (k + 1) ∧ W = ma V 26 0 (cpf (V 26 0) (V 25 0) (k + 1))) _ _ (fun x1 W z => ?_) ?_
      · obtain ⟨rfl, hW⟩ := z
        rw [hW]
        exact ih (k + 1) (by omega)
      · unfold wpX7_copyAll_25_26_2
        refine ⟨fun c => absurd c (nI_ge (b := 1479) (by omega) (by omega)), fun _ => ⟨k, rfl, by omega, fun V3 e3 => ⟨nI_1 k, ?_⟩⟩⟩
        rw [e3, ma_o (show ¬ 25 = 26 by decide), mu_ma, cpf_s]
  refine clX7_copyAll_25_26 (I2 := fun x1 W => x1 = nI 0 ∧ W = V) V (fun x1 W z => ?_) ?_
  · obtain ⟨rfl, hW⟩ := z
    rw [hW]
    have := L 1479 0 (by omega)
    rw [cpf_0, ma_eta] at this
    exact this
  · unfold wpX7_copyAll_25_26_0
    exact ⟨rfl, rfl⟩
theorem r_copy_26_25 (hp : P none (ma V 25 0 (cpf (V 25 0) (V 26 0) 1479))) : Cl UM (d + 1) mX7_copyAll [aR 26 0, aR 25 0] V P := by
  have L : ∀ q k, k + q = 1479 → Gq (Kp (d + 1) mX7_copyAll UM P) UM cX7_copyAll 3 RX7 2 [(0, aR 26 0), (1, aR 25 0), (2, aI (nI k))] [] (ma V 25 0 (cpf (V 25 0) (V 26 0) k)) := by
    intro q
    induction q with
    | zero =>
      intro k hk
      have hk : k = 1479 := by omega
      subst hk
      refine okX7_copyAll_26_25_2 (I2 := fun _ _ => False) _ _ (fun _ _ q => q.elim) ?_
      unfold wpX7_copyAll_26_25_2
      exact ⟨fun _ => hp, fun c => absurd (by decide) c⟩
    | succ q ih =>
      intro k hk
      refine okX7_copyAll_26_25_2 (I2 := fun x1 W => x1 = nI (k + 1) ∧ W = ma V 25 0 (cpf (V 25 0) (V 26 0) (k + 1))) _ _ (fun x1 W z => ?_) ?_
      · obtain ⟨rfl, hW⟩ := z
        rw [hW]
        exact ih (k + 1) (by omega)
      · unfold wpX7_copyAll_26_25_2
        refine ⟨fun c => absurd c (nI_ge (b := 1479) (by omega) (by omega)), fun _ => ⟨k, rfl, by omega, fun V3 e3 => ⟨nI_1 k, ?_⟩⟩⟩
        rw [e3, ma_o (show ¬ 26 = 25 by decide), mu_ma, cpf_s]
  refine clX7_copyAll_26_25 (I2 := fun x1 W => x1 = nI 0 ∧ W = V) V (fun x1 W z => ?_) ?_
  · obtain ⟨rfl, hW⟩ := z
    rw [hW]
    have := L 1479 0 (by omega)
    rw [cpf_0, ma_eta] at this
    exact this
  · unfold wpX7_copyAll_26_25_0
    exact ⟨rfl, rfl⟩
theorem r_copy_25_27 (hp : P none (ma V 27 0 (cpf (V 27 0) (V 25 0) 1479))) : Cl UM (d + 1) mX7_copyAll [aR 25 0, aR 27 0] V P := by
  have L : ∀ q k, k + q = 1479 → Gq (Kp (d + 1) mX7_copyAll UM P) UM cX7_copyAll 3 RX7 2 [(0, aR 25 0), (1, aR 27 0), (2, aI (nI k))] [] (ma V 27 0 (cpf (V 27 0) (V 25 0) k)) := by
    intro q
    induction q with
    | zero =>
      intro k hk
      have hk : k = 1479 := by omega
      subst hk
      refine okX7_copyAll_25_27_2 (I2 := fun _ _ => False) _ _ (fun _ _ q => q.elim) ?_
      unfold wpX7_copyAll_25_27_2
      exact ⟨fun _ => hp, fun c => absurd (by decide) c⟩
    | succ q ih =>
      intro k hk
      refine okX7_copyAll_25_27_2 (I2 := fun x1 W => x1 = nI (k + 1) ∧ W = ma V 27 0 (cpf (V 27 0) (V 25 0) (k + 1))) _ _ (fun x1 W z => ?_) ?_
      · obtain ⟨rfl, hW⟩ := z
        rw [hW]
        exact ih (k + 1) (by omega)
      · unfold wpX7_copyAll_25_27_2
        refine ⟨fun c => absurd c (nI_ge (b := 1479) (by omega) (by omega)), fun _ => ⟨k, rfl, by omega, fun V3 e3 => ⟨nI_1 k, ?_⟩⟩⟩
        rw [e3, ma_o (show ¬ 25 = 27 by decide), mu_ma, cpf_s]
  refine clX7_copyAll_25_27 (I2 := fun x1 W => x1 = nI 0 ∧ W = V) V (fun x1 W z => ?_) ?_
  · obtain ⟨rfl, hW⟩ := z
    rw [hW]
    have := L 1479 0 (by omega)
    rw [cpf_0, ma_eta] at this
    exact this
  · unfold wpX7_copyAll_25_27_0
    exact ⟨rfl, rfl⟩
theorem r_copy_27_25 (hp : P none (ma V 25 0 (cpf (V 25 0) (V 27 0) 1479))) : Cl UM (d + 1) mX7_copyAll [aR 27 0, aR 25 0] V P := by
  have L : ∀ q k, k + q = 1479 → Gq (Kp (d + 1) mX7_copyAll UM P) UM cX7_copyAll 3 RX7 2 [(0, aR 27 0), (1, aR 25 0), (2, aI (nI k))] [] (ma V 25 0 (cpf (V 25 0) (V 27 0) k)) := by
    intro q
    induction q with
    | zero =>
      intro k hk
      have hk : k = 1479 := by omega
      subst hk
      refine okX7_copyAll_27_25_2 (I2 := fun _ _ => False) _ _ (fun _ _ q => q.elim) ?_
      unfold wpX7_copyAll_27_25_2
      exact ⟨fun _ => hp, fun c => absurd (by decide) c⟩
    | succ q ih =>
      intro k hk
      refine okX7_copyAll_27_25_2 (I2 := fun x1 W => x1 = nI (k + 1) ∧ W = ma V 25 0 (cpf (V 25 0) (V 27 0) (k + 1))) _ _ (fun x1 W z => ?_) ?_
      · obtain ⟨rfl, hW⟩ := z
        rw [hW]
        exact ih (k + 1) (by omega)
      · unfold wpX7_copyAll_27_25_2
        refine ⟨fun c => absurd c (nI_ge (b := 1479) (by omega) (by omega)), fun _ => ⟨k, rfl, by omega, fun V3 e3 => ⟨nI_1 k, ?_⟩⟩⟩
        rw [e3, ma_o (show ¬ 27 = 25 by decide), mu_ma, cpf_s]
  refine clX7_copyAll_27_25 (I2 := fun x1 W => x1 = nI 0 ∧ W = V) V (fun x1 W z => ?_) ?_
  · obtain ⟨rfl, hW⟩ := z
    rw [hW]
    have := L 1479 0 (by omega)
    rw [cpf_0, ma_eta] at this
    exact this
  · unfold wpX7_copyAll_27_25_0
    exact ⟨rfl, rfl⟩
/-- what waits changes -/
theorem GR.wt (hN : NowR X M m T h) (hR : Rst X M T) (hX : ∀ r i, ¬ (r = 0 ∧ i = 0) → ¬ (r = 21 ∧ i = 0) → X1 r i = X r i) (hX0 : ∀ k, ¬ k = 11 → X1 0 0 k = X 0 0 k) (hM : ∀ r, ¬ r = 24 → ¬ r = 45 → M1 r 0 = M r 0) (hM0 : ∀ k, ¬ k = 32 → M1 24 0 k = M 24 0 k) (hT : WtR X1 M1) : GR X1 M1 := by
  refine GR.any hN hR (fun r i q => hX r i (by omega) (by omega)) (fun i hi => hX 3 i (by omega) (by omega)) (hX0 4 (by omega)) (hM 25 (by omega) (by omega)) (hM 26 (by omega) (by omega)) (hM0 3 (by omega)) (hM 30 (by omega) (by omega)) (hM 31 (by omega) (by omega)) (fun t ht => ?_) (fun t ht => ?_) ?_ hT
  · exact (hR.2.1 t ht).eq (hX 4 t (by omega) (by omega)) (hX 23 t (by omega) (by omega)) (by rw [hM 37 (by omega) (by omega)]) (by rw [hM 38 (by omega) (by omega)]) (fun k hk => by rw [hM 39 (by omega) (by omega)])
  · exact (hR.2.2.1 t ht).eq (hX 5 t (by omega) (by omega)) (hX 3 _ (by omega) (by omega)) (hX 4 _ (by omega) (by omega)) (hX 23 _ (by omega) (by omega)) (by rw [hM 40 (by omega) (by omega)]) (by rw [hM 41 (by omega) (by omega)]) (by rw [hM 42 (by omega) (by omega)]) (fun k hk => by rw [hM 43 (by omega) (by omega)])
  · exact hR.2.2.2.1.eq (hX0 6 (by omega)) (hM0 6 (by omega)) (hX 17 0 (by omega) (by omega)) (hM 29 (by omega) (by omega))
theorem op_tell (hG : GR X M) : OP (d + 12) mX6_tell mX7_tell [aI a] X M := by
  obtain ⟨m, T, h, hN, hR⟩ := id hG
  obtain ⟨L, l1, l2, l3, l4⟩ := id hR.2.2.2.2.1
  refine clX6_tell a X ?_
  unfold wpX6_tell_0
  have S : ∀ (a0 : Int32) (X1 : Mem), wpX7_tell_0 (Cl UM (d + 11)) a M (fun v2 M1 => v2 = some (aI a0) ∧ GR X1 M1) → Cl UM (d + 12) mX7_tell [aR 24 0, aI a] M (fun v2 M1 => v2 = some (aI a0) ∧ GR X1 M1) := fun a0 X1 q => clX7_tell a M q
  unfold wpX7_tell_0 at S
  rw [l2]
  rw [l3] at S
  refine ⟨fun c => ?_, fun c => ⟨_, rfl, S _ _ ⟨fun q => absurd ?_ q, fun _ => ⟨rfl, hG⟩⟩⟩⟩
  · have hL : L < 60 := (nI_ltI (b := 60) (by omega) (by omega)).mp c
    refine ⟨L, rfl, hL, fun V2 e2 V3 e3 => ⟨_, rfl, S _ _ ⟨fun _ => ⟨L, rfl, hL, fun W2 g2 W3 g3 => ⟨?_, ?_⟩⟩, fun q => ?_⟩⟩⟩
    · rw [e3, g3, mu_sk, mu_sk, e2, g2, mu_o (by decide), mu_o (by decide), l2, l3]
    · refine GR.wt hN hR (fun r i a b => by rw [e3, mu_eq, ma_ne a, e2, mu_eq, ma_ne b]) (fun k hk => by rw [e3, mu_sn hk, e2, mu_o (by decide)]) (fun r a b => by rw [g3, mu_o a, g2, mu_o b]) (fun k hk => by rw [g3, mu_sn hk, g2, mu_o (by decide)]) ?_
      refine ⟨L + 1, by omega, ?_, ?_, fun k hk => ?_⟩
      · rw [e3, mu_sk, e2, mu_o (by decide), l2, nI_1]
      · rw [g3, mu_sk, g2, mu_o (by decide), l3, nI_1]
      · rw [e3, mu_o (by decide), g3, mu_o (by decide), e2, g2]
        by_cases e : k = L
        · rw [e, mu_sk, mu_sk]
        · rw [mu_sn e, mu_sn e]
          exact l4 k (by omega)
    · exact absurd ((nI_eq (b := 60) (by omega) (by omega)).mp q) (by omega)
  · have : ¬ L < 60 := fun q => c (nI_lt (b := 60) q (by omega))
    rw [show L = 60 by omega]; rfl
theorem op_keep (hG : GR X M) : OP (d + 12) mX6_keep mX7_keep [] X M := by
  obtain ⟨m, T, h, hN, hR⟩ := id hG
  refine clX6_keep X ?_
  unfold wpX6_keep_0
  refine x_become (by omega) (by omega) (by omega) hN.1 (fun V1 hS1 hF1 => ⟨rfl, fun V2 e2 => ⟨_, rfl, ?_⟩⟩)
  refine clX7_keep M ?_
  unfold wpX7_keep_0
  refine r_copy_25_26 ⟨rfl, fun W2 g2 => ⟨?_, ?_⟩⟩
  · rw [g2, mu_o (by decide), ma_o (by decide), hN.1.1.1, e2, mu_o (by decide), hS1.1.many]
  · have f1 : ∀ r i, ¬ footB 1 r i → ¬ (r = 0 ∧ i = 0) → V2 r i = X r i := fun r i a b => by rw [e2, mu_eq, ma_ne b, hF1 r i a]
    have f2 : ∀ r i, ¬ (r = 0 ∧ i = 0) → V2 r i = V1 r i := fun r i b => by rw [e2, mu_eq, ma_ne b]
    have g1 : ∀ r, ¬ r = 24 → ¬ r = 26 → W2 r 0 = M r 0 := fun r a b => by rw [g2, mu_o a, ma_o b]
    have x0 : ∀ k, ¬ k = 4 → V2 0 0 k = X 0 0 k := fun k hk => by rw [e2, mu_sn hk, hF1 0 0 (by unfold footB; omega)]
    have m0 : ∀ k, ¬ k = 3 → W2 24 0 k = M 24 0 k := fun k hk => by rw [g2, mu_sn hk, ma_o (by decide)]
    refine ⟨m, T, h, ⟨?_, hN.2⟩, ?_, fun t ht => ?_, fun t ht => ?_, ?_, ?_, ?_⟩
    · rw [g1 25 (by omega) (by omega)]
      refine hN.1.eq (f1 2 0 ?_ (by omega)) (f1 14 0 ?_ (by omega)) (f1 15 0 ?_ (by omega)) (f1 16 0 ?_ (by omega)) (fun i hi => f1 3 _ ?_ (by omega)) (f1 7 0 ?_ (by omega)) (f1 8 0 ?_ (by omega)) (f1 9 0 ?_ (by omega)) (fun t _ => f1 11 t ?_ (by omega)) <;> (unfold footB; omega)
    · unfold ImgR
      have e1 : V2 0 0 4 = 1 := by rw [e2, mu_sk]
      have e3 : W2 24 0 3 = 1 := by rw [g2, mu_sk]
      rw [e1, e3]
      refine ⟨rfl, Or.inr ⟨rfl, m, T, h, ?_, hN.2, Nat.le_refl T⟩⟩
      refine WS.row (n := M 25 0) (hS1.eq (f2 2 1 (by omega)) (f2 14 1 (by omega)) (f2 15 1 (by omega)) (f2 16 1 (by omega)) (fun i hi => f2 3 _ (by omega)) (f2 7 0 (by omega)) (f2 8 0 (by omega)) (f2 9 0 (by omega)) (fun t _ => f2 11 t (by omega))) (fun j hj => ?_)
      rw [g2, mu_o (by decide), ma_same, cpf_lt hj]
    · exact (hR.2.1 t ht).eq (f1 4 t (by unfold footB; omega) (by omega)) (f1 23 t (by unfold footB; omega) (by omega)) (by rw [g1 37 (by omega) (by omega)]) (by rw [g1 38 (by omega) (by omega)]) (fun k hk => by rw [g1 39 (by omega) (by omega)])
    · exact (hR.2.2.1 t ht).eq (f1 5 t (by unfold footB; omega) (by omega)) (f1 3 _ (by unfold footB; omega) (by omega)) (f1 4 _ (by unfold footB; omega) (by omega)) (f1 23 _ (by unfold footB; omega) (by omega)) (by rw [g1 40 (by omega) (by omega)]) (by rw [g1 41 (by omega) (by omega)]) (by rw [g1 42 (by omega) (by omega)]) (fun k hk => by rw [g1 43 (by omega) (by omega)])
    · exact hR.2.2.2.1.eq (x0 6 (by omega)) (m0 6 (by omega)) (f1 17 0 (by unfold footB; omega) (by omega)) (g1 29 (by omega) (by omega))
    · exact hR.2.2.2.2.1.eq (x0 11 (by omega)) (m0 32 (by omega)) (f1 21 0 (by unfold footB; omega) (by omega)) (g1 45 (by omega) (by omega))
    · have h6 := hR.2.2.2.2.2
      unfold CkR at h6 ⊢
      rw [g1 30 (by omega) (by omega), g1 31 (by omega) (by omega)]
      exact h6
theorem op_back (hG : GR X M) : OP (d + 12) mX6_back mX7_back [] X M := by
  obtain ⟨m, T, h, hN, hR⟩ := id hG
  obtain ⟨i1, i2⟩ := id hR.1
  refine clX6_back X ?_
  unfold wpX6_back_0
  have S : ∀ (a0 : Int32) (X1 : Mem), wpX7_back_0 (Cl UM (d + 11)) M (fun v2 M1 => v2 = some (aI a0) ∧ GR X1 M1) → Cl UM (d + 12) mX7_back [aR 24 0] M (fun v2 M1 => v2 = some (aI a0) ∧ GR X1 M1) := fun a0 X1 q => clX7_back M q
  unfold wpX7_back_0 at S
  rw [i1]
  refine ⟨fun c => ?_, fun c => ⟨_, rfl, S _ _ ⟨fun q => absurd c q, fun _ => ⟨rfl, hG⟩⟩⟩⟩
  obtain ⟨e3, m1, T1, h1, hS, hh1, hT1⟩ := i2.resolve_left c
  refine x_become (by omega) (by omega) (by omega) hS (fun V1 hS1 hF1 => ⟨rfl, _, rfl, S _ _ ⟨fun _ => ?_, fun q => absurd q c⟩⟩)
  refine r_copy_26_25 ⟨rfl, ?_, ?_⟩
  · rw [ma_same, cpf_lt (by omega), hS.1.1, hS1.1.many]
  · have g1 : ∀ r, ¬ r = 25 → ma M 25 0 (cpf (M 25 0) (M 26 0) 1479) r 0 = M r 0 := fun r a => ma_o a
    have x0 : V1 0 0 = X 0 0 := hF1 0 0 (by unfold footB; omega)
    refine ⟨m1, T1, h1, ⟨?_, hh1⟩, ?_, fun t ht => ?_, fun t ht => ?_, ?_, ?_, ?_⟩
    · rw [ma_same]
      exact WS.row (n := M 26 0) hS1 (fun j hj => cpf_lt hj)
    · unfold ImgR
      rw [x0, g1 24 (by omega), g1 26 (by omega)]
      refine ⟨i1, Or.inr ⟨e3, m1, T1, h1, ?_, hh1, Nat.le_refl T1⟩⟩
      refine hS.eq (hF1 2 1 ?_) (hF1 14 1 ?_) (hF1 15 1 ?_) (hF1 16 1 ?_) (fun i hi => hF1 3 _ ?_) (hF1 7 0 ?_) (hF1 8 0 ?_) (hF1 9 0 ?_) (fun t _ => hF1 11 t ?_) <;> (unfold footB; omega)
    · exact (hR.2.1 t ht).eq (hF1 4 t (by unfold footB; omega)) (hF1 23 t (by unfold footB; omega)) (by rw [g1 37 (by omega)]) (by rw [g1 38 (by omega)]) (fun k hk => by rw [g1 39 (by omega)])
    · exact (hR.2.2.1 t ht).eq (hF1 5 t (by unfold footB; omega)) (hF1 3 _ (by unfold footB; omega)) (hF1 4 _ (by unfold footB; omega)) (hF1 23 _ (by unfold footB; omega)) (by rw [g1 40 (by omega)]) (by rw [g1 41 (by omega)]) (by rw [g1 42 (by omega)]) (fun k hk => by rw [g1 43 (by omega)])
    · exact hR.2.2.2.1.eq (by rw [x0]) (by rw [g1 24 (by omega)]) (hF1 17 0 (by unfold footB; omega)) (g1 29 (by omega))
    · exact hR.2.2.2.2.1.eq (by rw [x0]) (by rw [g1 24 (by omega)]) (hF1 21 0 (by unfold footB; omega)) (g1 45 (by omega))
    · have h6 := hR.2.2.2.2.2
      unfold CkR at h6 ⊢
      rw [g1 30 (by omega), g1 31 (by omega)]
      exact h6
end OPS16
