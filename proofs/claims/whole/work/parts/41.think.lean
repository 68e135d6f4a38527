/-! ===== what is only thought ===== -/
def cpf (f g : NF) (k : Nat) : NF := fun j => if j < k then g j else f j
def footB (w r i : Nat) : Prop := ((r = 2 ∨ r = 14 ∨ r = 15 ∨ r = 16) ∧ i = w) ∨ (r = 3 ∧ 8 * w ≤ i ∧ i < 8 * w + 8)
def thk (r i : Nat) : Prop := footB 2 r i ∨ r = 12 ∨ r = 22
def TH (X X1 : Mem) : Prop := ∀ r i, ¬ thk r i → X1 r i = X r i
def TM (M M1 : Mem) (n : NF) : Prop := M1 25 0 = n ∧ (∀ j, j < 107 → M1 28 0 j = M 25 0 j) ∧ ∀ r, ¬ nowM r → M1 r 0 = M r 0
section THINK
variable {d D : Nat} {V W X M X1 M1 : Mem} {P : Option AV → Mem → Prop} {w v m h T i j k r t u q m1 h1 : Nat} {n n1 : NF} {a b c x y z kk ss : Int32} {B B1 : Int}
theorem cpf_s {f g : NF} {k : Nat} : upd (cpf f g k) k (g k) = cpf f g (k + 1) := by
  funext j
  unfold upd cpf
  by_cases e : j = k
  · subst e; simp
  · by_cases q : j < k
    · simp [e, q, show j < k + 1 by omega]
    · simp [e, q, show ¬ j < k + 1 by omega]
theorem cpf_0 {f g : NF} : cpf f g 0 = f := by
  funext j; unfold cpf; simp
theorem cpf_lt {f g : NF} (h : j < k) : cpf f g k j = g j := if_pos h
theorem cpf_ge {f g : NF} (h : ¬ j < k) : cpf f g k j = f j := if_neg h
theorem x_rbecome (h1 : i < 29) (h2 : k < 29) (hik : ¬ k = i) (hp : ∀ V1, (∀ r j, ¬ (r = 3 ∧ j = i) → V1 r j = V r j) → (∀ j, j < 6 → V1 3 i j = V 3 k j) → P none V1) : Cl UX (d + 1) mX2_become [aR 3 i, aR 3 k] V P := by
  refine clX2_become i k h1 h2 V ?_
  unfold wpX2_become_0
  intro V1 e1 V2 e2 V3 e3 V4 e4 V5 e5 V6 e6
  have hne : ∀ (V : Mem) (f : NF), ma V 3 i f 3 k = V 3 k := fun V f => ma_ne (fun z => hik z.2)
  have e : V6 = ma V 3 i (upd (upd (upd (upd (upd (upd (V 3 i) 0 (V 3 k 0)) 1 (V 3 k 1)) 2 (V 3 k 2)) 3 (V 3 k 3)) 4 (V 3 k 4)) 5 (V 3 k 5)) := by
    rw [e6, e5, e4, e3, e2, e1]
    simp only [mu_eq, ma_same, ma_ma, hne]
  refine hp V6 (fun r j q => ?_) (fun j hj => ?_)
  · rw [e, ma_ne q]
  · rw [e, ma_same]
    rcases (show j = 0 ∨ j = 1 ∨ j = 2 ∨ j = 3 ∨ j = 4 ∨ j = 5 by omega) with rfl | rfl | rfl | rfl | rfl | rfl <;> simp [upd]
/-- a world becomes another one -/
theorem x_become (hw : w < 3) (hv : v < 3) (hvw : ¬ v = w) (hS : WS V v n m T h B) (hp : ∀ V1, WS V1 w n m T h B → (∀ r i, ¬ footB w r i → V1 r i = V r i) → P none V1) : Cl UX (d + 2) mX5_become [aR 2 w, aR 2 v] V P := by
  obtain ⟨q1, q2, q3, q4, q5, q6, q7⟩ := id hS
  have hm := q1.2.1
  have L : ∀ q k, k + q = m → ∀ V1, (∀ r i, ¬ (r = 2 ∧ i = w) → ¬ (r = 3 ∧ 8 * w ≤ i ∧ i < 8 * w + 8) → V1 r i = V r i) → V1 2 w 6 = nI m → (∀ i, i < k → ∀ j, j < 6 → V1 3 (8 * w + i) j = V 3 (8 * v + i) j) → Gq (Kp (d + 2) mX5_become UX P) UX cX5_become 3 RX5 10 [(0, aR 2 w), (1, aR 2 v), (2, aI (nI k))] [] V1 := by
    intro q
    induction q with
    | zero =>
      intro k hk V1 hF h6 h3
      have hk : k = m := by omega
      subst hk
      refine okX5_become_10 (I10 := fun _ _ => False) w v hw hv _ V1 (fun _ _ q => q.elim) ?_
      unfold wpX5_become_10
      rw [h6]
      refine ⟨fun _ => ⟨0, 0, 24, rfl, rfl, rfl, by omega, by omega, fun V4 e4 => ⟨0, 0, 24, rfl, rfl, rfl, by omega, by omega, fun V8 e8 => ⟨0, 0, 3, rfl, rfl, rfl, by omega, by omega, fun V12 e12 V13 e13 V14 e14 V15 e15 V16 e16 V17 e17 V18 e18 V19 e19 V20 e20 V21 e21 V22 e22 => ?_⟩⟩⟩, fun c => absurd (nI_le (Nat.le_refl k) (by omega)) c⟩
      have hne : ∀ (V : Mem) (f : NF), ma V 2 w f 2 v = V 2 v := fun V f => ma_ne (fun z => hvw z.2)
      have e : V22 = ma V12 2 w (upd (upd (upd (upd (upd (upd (upd (upd (upd (upd (V12 2 w) 5 (V12 2 v 5)) 7 (V12 2 v 7)) 8 (V12 2 v 8)) 9 (V12 2 v 9)) 10 (V12 2 v 10)) 11 (V12 2 v 11)) 12 (V12 2 v 12)) 13 (V12 2 v 13)) 14 (V12 2 v 14)) 15 (V12 2 v 15)) := by
        rw [e22, e21, e20, e19, e18, e17, e16, e15, e14, e13]
        simp only [mu_eq, ma_same, ma_ma, hne]
      have o12 : ∀ r i, ¬ (r = 14 ∧ i = w) → ¬ (r = 15 ∧ i = w) → ¬ (r = 16 ∧ i = w) → V12 r i = V1 r i := fun r i a b c => by
        rw [e12, ma_ne c, e8, ma_ne b, e4, ma_ne a]
      have o22 : ∀ r i, ¬ (r = 2 ∧ i = w) → V22 r i = V12 r i := fun r i a => by rw [e, ma_ne a]
      have s12 : V12 2 v = V 2 v := by rw [o12 2 v (by omega) (by omega) (by omega), hF 2 v (by omega) (by omega)]
      have g14 : ∀ j, j < 24 → V22 14 w j = V 14 v j := fun j hj => by
        rw [o22 14 w (by omega), e12, ma_o (by decide), e8, ma_o (by decide), e4, ma_same, pk_cpy_in (by omega) (by omega), hF 14 v (by omega) (by omega), show 0 + (j - 0) = j by omega]
      have g15 : ∀ j, j < 24 → V22 15 w j = V 15 v j := fun j hj => by
        rw [o22 15 w (by omega), e12, ma_o (by decide), e8, ma_same, pk_cpy_in (by omega) (by omega), e4, ma_o (by decide), hF 15 v (by omega) (by omega), show 0 + (j - 0) = j by omega]
      have g16 : ∀ j, j < 3 → V22 16 w j = V 16 v j := fun j hj => by
        rw [o22 16 w (by omega), e12, ma_same, pk_cpy_in (by omega) (by omega), e8, ma_o (by decide), e4, ma_o (by decide), hF 16 v (by omega) (by omega), show 0 + (j - 0) = j by omega]
      have g3 : ∀ i, i < k → ∀ j, j < 6 → V22 3 (8 * w + i) j = V 3 (8 * v + i) j := fun i hi j hj => by
        rw [o22 3 _ (by omega), o12 3 _ (by omega) (by omega) (by omega), h3 i hi j hj]
      have g2 : ∀ j, j < 11 → V22 2 w (fld j) = V 2 v (fld j) := fun j hj => by
        rw [e, ma_same, s12]
        rcases (show j = 1 ∨ j = 0 ∨ j = 2 ∨ j = 3 ∨ j = 4 ∨ j = 5 ∨ j = 6 ∨ j = 7 ∨ j = 8 ∨ j = 9 ∨ j = 10 by omega) with rfl | rfl | rfl | rfl | rfl | rfl | rfl | rfl | rfl | rfl | rfl
        · have : V12 2 w 6 = V 2 v 6 := by rw [o12 2 w (by omega) (by omega) (by omega), h6, q1.many]
          simp [upd, fld, this]
        all_goals simp [upd, fld]
      have gF : ∀ r i, ¬ footB w r i → V22 r i = V r i := fun r i q => by
        unfold footB at q
        rw [o22 r i (by omega), o12 r i (by omega) (by omega) (by omega), hF r i (by omega) (by omega)]
      refine hp V22 ⟨⟨q1.1, hm, fun j hj => ?_⟩, q2, q3, q4, fun t ht => ?_, fun j hj => ?_, q7⟩ gF
      · rw [← q1.2.2 j hj]
        unfold vw
        split
        · exact g2 j (by omega)
        · split
          · exact g14 _ (by omega)
          · split
            · exact g15 _ (by omega)
            · exact g3 _ (by omega) _ (by omega)
      · rw [gF 7 0 (by unfold footB; omega), gF 8 0 (by unfold footB; omega), gF 9 0 (by unfold footB; omega), gF 11 t (by unfold footB; omega)]
        exact q5 t ht
      · rw [g16 j hj]
        exact q6 j hj
    | succ q ih =>
      intro k hk V1 hF h6 h3
      refine okX5_become_10 (I10 := fun x2 W => x2 = nI (k + 1) ∧ (∀ r i, ¬ (r = 2 ∧ i = w) → ¬ (r = 3 ∧ 8 * w ≤ i ∧ i < 8 * w + 8) → W r i = V r i) ∧ W 2 w 6 = nI m ∧ (∀ i, i < k + 1 → ∀ j, j < 6 → W 3 (8 * w + i) j = V 3 (8 * v + i) j)) w v hw hv _ V1 (fun x2 W z => ?_) ?_
      · obtain ⟨rfl, z1, z2, z3⟩ := z
        exact ih (k + 1) (by omega) W z1 z2 z3
      · unfold wpX5_become_10
        rw [h6]
        refine ⟨fun c => absurd c (nI_ge (by omega) (by omega)), fun _ => ⟨k, rfl, by omega, ?_⟩⟩
        refine x_rbecome (by omega) (by omega) (by omega) (fun V2 g1 g2 => ⟨rfl, nI_1 k, fun r i a b => ?_, ?_, fun i hi j hj => ?_⟩)
        · rw [g1 r i (by omega), hF r i a b]
        · rw [g1 2 w (by omega), h6]
        · by_cases e : i = k
          · subst e
            rw [g2 j hj, hF 3 (8 * v + i) (by omega) (by omega)]
          · rw [g1 3 (8 * w + i) (by omega), h3 i (by omega) j hj]
  refine clX5_become (I10 := fun x2 W => x2 = nI 0 ∧ W = mu V 2 w 6 (V 2 v 6)) w v hw hv V (fun x2 W z => ?_) ?_
  · obtain ⟨rfl, hW⟩ := z
    rw [hW]
    refine L m 0 (by omega) _ (fun r i a _ => ?_) ?_ (fun i hi => absurd hi (by omega))
    · rw [mu_eq, ma_ne a]
    · rw [mu_sk, q1.many]
  · unfold wpX5_become_0
    exact fun V1 e1 => ⟨rfl, e1⟩
theorem TH.rf : TH X X := fun _ _ _ => rfl
theorem TH.tr (h1 : TH X X1) (h2 : TH X1 V) : TH X V := fun r i q => (h2 r i q).trans (h1 r i q)
theorem TH.fr (h : FR 2 X X1) : TH X X1 := fun r i q => h r i (fun z => q (by unfold thk footB; unfold foot at z; omega))
theorem TH.fb (h : ∀ r i, ¬ footB 2 r i → X1 r i = X r i) : TH X X1 := fun r i q => h r i (fun z => q (Or.inl z))
theorem th_now (q : thk r i) : nowX r i := by
  rcases q with q | q | q
  · rcases q with ⟨q | q | q | q, e⟩ | q
    · exact Or.inr (Or.inr (Or.inr (Or.inr (Or.inr (Or.inr (Or.inl ⟨q, e⟩))))))
    · exact Or.inr (Or.inr (Or.inr (Or.inr (Or.inr (Or.inr (Or.inr (Or.inl ⟨q, e⟩)))))))
    · exact Or.inr (Or.inr (Or.inr (Or.inr (Or.inr (Or.inr (Or.inr (Or.inr (Or.inl ⟨q, e⟩))))))))
    · exact Or.inr (Or.inr (Or.inr (Or.inr (Or.inr (Or.inr (Or.inr (Or.inr (Or.inr (Or.inl ⟨q, e⟩)))))))))
    · exact Or.inr (Or.inr (Or.inr (Or.inr (Or.inr (Or.inr (Or.inr (Or.inr (Or.inr (Or.inr (Or.inl ⟨q.1, by omega, by omega⟩))))))))))
  · exact Or.inr (Or.inr (Or.inr (Or.inr (Or.inr (Or.inl q)))))
  · exact Or.inr (Or.inr (Or.inr (Or.inr (Or.inr (Or.inr (Or.inr (Or.inr (Or.inr (Or.inr (Or.inr (Or.inl q)))))))))))
theorem TH.ws (hS : WS X 0 n m T h B) (hT : TH X X1) : WS X1 0 n m T h B := by
  have K : ∀ r i, ¬ thk r i → X1 r i = X r i := hT
  refine hS.eq (K 2 0 ?_) (K 14 0 ?_) (K 15 0 ?_) (K 16 0 ?_) (fun i hi => K 3 _ ?_) (K 7 0 ?_) (K 8 0 ?_) (K 9 0 ?_) (fun t ht => K 11 t ?_) <;> (unfold thk footB; omega)
theorem TH.gr (hN : NowR X M m T h) (hR : Rst X M T) (hX : TH X X1) (hM : TM M M1 (M 25 0)) : GR X1 M1 := by
  refine ⟨m, T, h, ⟨?_, hN.2⟩, hR.eq (fun r i q => hX r i (fun z => q (th_now z))) hM.2.2⟩
  rw [hM.1]
  exact TH.ws hN.1 hX
theorem r_thinks (hp : ∀ M1, TM V M1 (V 25 0) → P none M1) : Cl UM (d + 1) mX7_thinks [aR 24 0] V P := by
  have L : ∀ q k, k + q = 107 → Gq (Kp (d + 1) mX7_thinks UM P) UM cX7_thinks 2 RX7 2 [(0, aR 24 0), (1, aI (nI k))] [] (ma V 28 0 (cpf (V 28 0) (V 25 0) k)) := by
    intro q
    induction q with
    | zero =>
      intro k hk
      have hk : k = 107 := by omega
      subst hk
      refine okX7_thinks_2 (I2 := fun _ _ => False) _ _ (fun _ _ q => q.elim) ?_
      unfold wpX7_thinks_2
      refine ⟨fun _ => hp _ ⟨ma_o (by decide), fun j hj => ?_, ma_now (Or.inr (Or.inr (Or.inl rfl)))⟩, fun c => absurd (by decide) c⟩
      rw [ma_same, cpf_lt hj]
    | succ q ih =>
      intro k hk
      refine okX7_thinks_2 (I2 := fun x1 W => x1 = nI (k + 1) ∧ W = ma V 28 0 (cpf (V 28 0) (V 25 0) (k + 1))) _ _ (fun x1 W z => ?_) ?_
      · obtain ⟨rfl, hW⟩ := z
        rw [hW]
        exact ih (k + 1) (by omega)
      · unfold wpX7_thinks_2
        refine ⟨fun c => absurd c (nI_ge (b := 107) (by omega) (by omega)), fun _ => ⟨k, rfl, by omega, k, rfl, by omega, fun V3 e3 => ⟨nI_1 k, ?_⟩⟩⟩
        rw [e3, ma_o (show ¬ 25 = 28 by decide), mu_ma, cpf_s]
  refine clX7_thinks (I2 := fun x1 W => x1 = nI 0 ∧ W = V) V (fun x1 W z => ?_) ?_
  · obtain ⟨rfl, hW⟩ := z
    rw [hW]
    have := L 107 0 (by omega)
    rw [cpf_0, ma_eta] at this
    exact this
  · unfold wpX7_thinks_0
    exact ⟨rfl, rfl⟩
theorem r_puts (hT : TM M V n) (hn : ∀ j, 107 ≤ j → n j = M 25 0 j) (hp : ∀ M1, TM M M1 (M 25 0) → P none M1) : Cl UM (d + 1) mX7_putsBack [aR 24 0] V P := by
  have L : ∀ q k, k + q = 107 → Gq (Kp (d + 1) mX7_putsBack UM P) UM cX7_putsBack 2 RX7 2 [(0, aR 24 0), (1, aI (nI k))] [] (ma V 25 0 (cpf (V 25 0) (V 28 0) k)) := by
    intro q
    induction q with
    | zero =>
      intro k hk
      have hk : k = 107 := by omega
      subst hk
      refine okX7_putsBack_2 (I2 := fun _ _ => False) _ _ (fun _ _ q => q.elim) ?_
      unfold wpX7_putsBack_2
      refine ⟨fun _ => hp _ ⟨?_, fun j hj => ?_, fun r q => ?_⟩, fun c => absurd (by decide) c⟩
      · rw [ma_same]
        funext j
        by_cases q : j < 107
        · rw [cpf_lt q, hT.2.1 j q]
        · rw [cpf_ge q, hT.1, hn j (by omega)]
      · rw [ma_o (by decide)]
        exact hT.2.1 j hj
      · rw [ma_now (Or.inl rfl) r q]
        exact hT.2.2 r q
    | succ q ih =>
      intro k hk
      refine okX7_putsBack_2 (I2 := fun x1 W => x1 = nI (k + 1) ∧ W = ma V 25 0 (cpf (V 25 0) (V 28 0) (k + 1))) _ _ (fun x1 W z => ?_) ?_
      · obtain ⟨rfl, hW⟩ := z
        rw [hW]
        exact ih (k + 1) (by omega)
      · unfold wpX7_putsBack_2
        refine ⟨fun c => absurd c (nI_ge (b := 107) (by omega) (by omega)), fun _ => ⟨k, rfl, by omega, fun V3 e3 => ⟨nI_1 k, ?_⟩⟩⟩
        rw [e3, ma_o (show ¬ 28 = 25 by decide), mu_ma, cpf_s]
  refine clX7_putsBack (I2 := fun x1 W => x1 = nI 0 ∧ W = V) V (fun x1 W z => ?_) ?_
  · obtain ⟨rfl, hW⟩ := z
    rw [hW]
    have := L 107 0 (by omega)
    rw [cpf_0, ma_eta] at this
    exact this
  · unfold wpX7_putsBack_0
    exact ⟨rfl, rfl⟩
theorem TM.m3 {f s : NF} (hT : TM M V n) : TM M (M3 V n1 f s) n1 := ⟨M3_n V n1 f s, fun j hj => by rw [M3_o (by decide) (by decide) (by decide)]; exact hT.2.1 j hj, fun r q => (M3_now r q).trans (hT.2.2 r q)⟩
theorem TM.put (hT : TM M V n) : TM M (ma V 25 0 n1) n1 := ⟨ma_same .., fun j hj => by rw [ma_o (by decide)]; exact hT.2.1 j hj, fun r q => (ma_now (Or.inl rfl) r q).trans (hT.2.2 r q)⟩
theorem r_behind (hT : TM M V n) (hn : ∀ j, 107 ≤ j → n j = M 25 0 j) (hI : LawI n T) (e1 : n 1 = nI m) (hm : m ≤ 8) (e : n 2 = nI h) (hl : h + k < 2 ^ 31) (ea : a = nI k) (eb : b = nI j) (hj : j < 1479) (hp : ∀ M1, TM M M1 (M 25 0) → P (some (aI ((gHours n T h m k).1 j))) M1) : Cl UM (d + 7) mX7_behindIt [aR 24 0, aI a, aI b] V P := by
  refine clX7_behindIt a b V ?_
  unfold wpX7_behindIt_0
  have h25 := hT.1
  refine r_hours (T := T) (h := h) (m := m) (k := k) (by rw [h25]; exact hI) (by rw [h25]; exact e1) hm (by rw [h25]; exact e) hl ea (fun f s => ⟨_, rfl, j, eb, hj, fun z ez => ?_⟩)
  rw [h25] at ez ⊢
  refine r_puts (hT.m3) (fun i hi => ?_) (fun M1 h1 => ⟨rfl, ?_⟩)
  · rw [gHours_o (not_hot (by omega) (by omega))]
    exact hn i hi
  · rw [ez, M3_n]
    exact hp M1 h1
end THINK
