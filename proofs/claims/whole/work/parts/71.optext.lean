/-! ===== the calls, side by side: text ===== -/
section OPTEXT
variable {d D g : Nat} {V W X M X1 M1 : Mem} {P : Option AV → Mem → Prop} {v m h T i j k r t u q m1 h1 s p e st en so so0 L st1 en1 so1 pr ao key lst nb l o T1 w : Nat} {tp ts n n1 : NF} {a b c x y z kk ss c0 sg : Int32} {stk code ops S out ys : List Int32} {B : Int}
/-- the end of the reference's text, when it is none -/
theorem r_textF (hN : NowR X M m T h) (hR : Rst X M T) (hX : ∀ r i, ¬ (r = 0 ∧ i = 0) → ¬ r = 6 → ¬ r = 18 → X1 r i = X r i) (hX0 : ∀ k, ¬ k = 6 → X1 0 0 k = X 0 0 k) (h06 : X1 0 0 6 = 0) (hM : ∀ r, ¬ r = 24 → ¬ r = 32 → ¬ r = 33 → ¬ r = 34 → V r 0 = M r 0) (hM0 : ∀ k, k = 3 ∨ k = 32 → V 24 0 k = M 24 0 k) (h8 : V 24 0 8 = nI st) {I : Int32 → Int32 → Int32 → Mem → Prop} {C : CT} : wpX7_text_32 C I V (fun v2 M1 => v2 = some (aI (-100 - nI st)) ∧ GR X1 M1) := by
  unfold wpX7_text_32 wpX7_text_33
  intro V1 e1
  refine f2 ⟨by rw [e1, mu_sn (by omega), h8], GR.tx hN hR hX hX0 h06 (fun r q1 q2 q3 q4 => by rw [e1, mu_o q1, hM r q1 q2 q3 q4]) (fun k hk => by rw [e1, mu_sn (by omega), hM0 k hk]) (by rw [e1, mu_sk])⟩
theorem op_text (hG : GR X M) : OP (d + 100) mX6_text mX7_text [] X M := by
  obtain ⟨m, T, h, hN, hR⟩ := id hG
  obtain ⟨L, l1, l2, l3, l4⟩ := id hR.2.2.2.1
  obtain ⟨q1, q2, q3, q4, q5, q6, q7⟩ := id hN.1
  obtain ⟨t1', t2', t3⟩ := id q4
  have xT : X 2 0 5 = nI T := (q1.sc 10 (by omega)).trans t1'
  have htp : ∀ j, j < L → X 17 0 j = X 17 0 j := fun _ _ => rfl
  have htpM : ∀ j, j < L → M 29 0 j = X 17 0 j := fun j hj => (l4 j hj).1.symm
  have hCk := hR.2.2.2.2.2
  -- the reference, up to its key
  have RK : ∀ (st en so : Nat), Tok (X 17 0) L 0 false st en so → ∀ (P : Option AV → Mem → Prop) (I : Int32 → Int32 → Int32 → Mem → Prop),
      (∀ k, k < 3 → so = 1 → isKw (X 17 0) st en k → (∀ j, j < k → ¬ isKw (X 17 0) st en j) → ∃ st1 en1 so1, Tok (X 17 0) L en true st1 en1 so1 ∧ ∀ V4 : Mem, RB (mu M 24 0 12 (nI k)) 0 [] [] 0 (fun _ => 0) (mu (mu (mu (mu V4 24 0 16 0) 24 0 17 0) 24 0 19 0) 34 0 0 0) → RT V4 (X 17 0) st1 en1 so1 → (cI (Cl UM (d + 99)) mX7_takesE [aR 24 0] V4 (fun x_7 V_6 => ((x_7 = 0 → wpX7_text_32 (Cl UM (d + 99)) I V_6 P) ∧ (¬ x_7 = 0 → wpX7_text_33 (Cl UM (d + 99)) I 1 V_6 P))))) →
      ((¬ so = 1 ∨ ∀ k, k < 3 → ¬ isKw (X 17 0) st en k) → ∀ V4 : Mem, (∀ r, ¬ r = 24 → ¬ r = 32 → ¬ r = 33 → ¬ r = 34 → V4 r 0 = M r 0) → (∀ k, k = 3 ∨ k = 32 → V4 24 0 k = M 24 0 k) → V4 24 0 8 = nI st → wpX7_text_32 (Cl UM (d + 99)) I V4 P) → wpX7_text_0 (Cl UM (d + 99)) I M P := by
    intro st en so hX P I hT hF
    have hle := hX.le
    unfold wpX7_text_0
    intro V1 e1 V2 e2
    have f0 : ∀ k, ¬ k = 7 → ¬ k = 11 → V2 24 0 k = M 24 0 k := fun k a b => by rw [e2, mu_sn b, e1, mu_sn a]
    have fo : ∀ r i, ¬ (r = 24 ∧ i = 0) → V2 r i = M r i := fun r i q => by rw [e2, mu_eq, ma_ne q, e1, mu_eq, ma_ne q]
    refine r_go (w := false) (L := L) (e := 0) (tp := X 17 0) (by rw [f0 6 (by omega) (by omega), l3]) (by rw [e2, mu_sn (by omega), e1, mu_sk]; rfl) l1 (fun j hj => by rw [fo 29 0 (by omega), htpM j hj]) (fun z => absurd z (by decide)) (fun _ => by rw [e2, mu_sk]; decide) hX (fun V3 hF3 hT3 => ⟨rfl, ?_⟩)
    have g0 : ∀ k, k < 7 ∨ 11 < k → V3 24 0 k = M 24 0 k := fun k hk => by rw [hF3.2 k hk, f0 k (by omega) (by omega)]
    have go : ∀ r i, ¬ (r = 24 ∧ i = 0) → V3 r i = M r i := fun r i q => by rw [hF3.1 r i q, fo r i q]
    refine r_takesKey (L := L) (by rw [g0 6 (by omega), l3]) l1 (fun j hj => by rw [go 29 0 (by omega), htpM j hj]) ?_ hT3 hle.2.2.2 hle.2.1 hle.2.2.1 (fun k hk s1 hw hn => ?_) (fun no => ⟨_, rfl, f1 (hF no V3 (fun r a _ _ _ => go r 0 (by omega)) (fun k hk => g0 k (by omega)) hT3.1)⟩)
    · unfold CkR at hCk ⊢
      rw [go 30 0 (by omega), go 31 0 (by omega)]
      exact hCk
    · obtain ⟨st1, en1, so1, hX1, hp⟩ := hT k hk s1 hw hn
      refine ⟨st1, en1, so1, hX1, fun V4 hF4 hT4 => ⟨_, rfl, t1 (hp V4 ?_ hT4)⟩⟩
      have v0 : ∀ j, ¬ (j = 7 ∨ j = 8 ∨ j = 9 ∨ j = 10 ∨ j = 11) → V4 24 0 j = mu M 24 0 12 (nI k) 24 0 j := fun j hj => by
        rw [hF4.2 j (by omega)]
        by_cases e : j = 12
        · rw [e, mu_sk, mu_sk]
        · rw [mu_sn e, mu_sn e, g0 j (by omega)]
      refine ⟨fun r i q => ?_, fun j q => ?_, ?_, fun i c hc => absurd hc (by simp), ?_, ?_, fun i c hc => absurd hc (by simp), fun j hj => ?_⟩
      · rw [mu_o (by omega), mu_o (by omega), mu_o (by omega), mu_o (by omega), hF4.1 r i (by omega), mu_o (by omega), go r i (by omega), mu_o (by omega)]
      · rw [mu_o (by decide), mu_sn (by omega), mu_sn (by omega), mu_sn (by omega), v0 j (by omega)]
      · rw [mu_o (by decide), mu_sn (by omega), mu_sn (by omega), mu_sk]; rfl
      · rw [mu_o (by decide), mu_sn (by omega), mu_sk]; rfl
      · rw [mu_o (by decide), mu_sk]; rfl
      · rw [show j = 0 by omega, mu_sk]
  -- the reference's expression, begun
  have RE : ∀ (k st1 en1 so1 : Nat) (Q : Option AV → Mem → Prop), RG (d + 93) Q (mu M 24 0 12 (nI k)) (X 17 0) st1 en1 so1 1 0 [] [] 0 (fun _ => 0) → ∀ V4 : Mem, RB (mu M 24 0 12 (nI k)) 0 [] [] 0 (fun _ => 0) (mu (mu (mu (mu V4 24 0 16 0) 24 0 17 0) 24 0 19 0) 34 0 0 0) → RT V4 (X 17 0) st1 en1 so1 → Cl UM (d + 99) mX7_takesE [aR 24 0] V4 Q := by
    intro k st1 en1 so1 Q hRG V4 hB hT4
    refine clX7_takesE (I28 := fun y1 y2 y3 W => y1 = nI 0 ∧ y2 = nI (nc []) ∧ y3 = 1 ∧ RSt (mu M 24 0 12 (nI k)) (X 17 0) st1 en1 so1 0 [] [] 0 (fun _ => 0) W) V4 (fun y1 y2 y3 W z => ?_) ?_
    · obtain ⟨rfl, rfl, rfl, hW⟩ := z
      exact hRG W hW
    · unfold wpX7_takesE_0
      intro V1 e1 V2 e2 V3 e3 V5 e5
      refine ⟨rfl, rfl, rfl, ?_, hT4.fr (fun j a b => ?_), Nat.zero_le _⟩
      · rw [e5, e3, e2, e1]; exact hB
      · rw [e5, mu_o (by decide), e3, mu_sn (by omega), e2, mu_sn (by omega), e1, mu_sn (by omega)]
  refine clX6_text X ?_
  unfold wpX6_text_0
  rw [l2]
  refine clX1_readText (nI L) X ?_
  unfold wpX1_readText_0
  intro V1 e1 V2 e2 V3 e3 V4 e4 V5 e5
  have x5 : ∀ r i, ¬ (r = 6 ∧ i = 0) → V5 r i = X r i := fun r i q => by rw [e5, mu_eq, ma_ne q, e4, mu_eq, ma_ne q, e3, mu_eq, ma_ne q, e2, mu_eq, ma_ne q, e1, mu_eq, ma_ne q]
  have y7 : V5 6 0 7 = nI 0 := by rw [e5, mu_sk]; rfl
  have y6 : V5 6 0 6 = nI 0 := by rw [e5, mu_sn (by omega), e4, mu_sk]; rfl
  have y4 : V5 6 0 4 = nI 0 := by rw [e5, mu_sn (by omega), e4, mu_sn (by omega), e3, mu_sk]; rfl
  have y2 : V5 6 0 2 = nI 0 := by rw [e5, mu_sn (by omega), e4, mu_sn (by omega), e3, mu_sn (by omega), e2, mu_sk]; rfl
  have y8 : V5 6 0 8 = nI L := by rw [e5, mu_sn (by omega), e4, mu_sn (by omega), e3, mu_sn (by omega), e2, mu_sn (by omega), e1, mu_sk]
  refine x_goOn (w := false) (e := 0) (so0 := 0) (L := L) (tp := X 17 0) y6 y7 (by omega) rfl y8 l1 (by omega) (fun j hj => by rw [x5 17 0 (by omega)]) (fun st en so hX => ⟨rfl, ?_⟩)
  have hle := hX.le
  -- the class's end, when it is no text
  have CFAIL : ∀ (st1 : Nat) (W : Mem), CF X st1 W → (∀ X1 : Mem, (∀ r i, ¬ (r = 0 ∧ i = 0) → ¬ r = 6 → ¬ r = 18 → X1 r i = X r i) → (∀ k, ¬ k = 6 → X1 0 0 k = X 0 0 k) → X1 0 0 6 = 0 → Cl UM (d + 100) mX7_text [aR 24 0] M (fun v2 M1 => v2 = some (aI (-100 - nI st1)) ∧ GR X1 M1)) → (fun v V1 => ∃ x : Int32, v = some (aI x) ∧ (fun x_2 V_1 => (∀ V_3 : Mem, V_3 = mu V_1 0 0 6 0 → ((¬ x_2 = 0 → (((V_3 2 0 5) < 14 → (∀ z_4 : Int32, z_4 = (V_3 2 0 5) → (cV (Cl UX (d + 99)) mX0_put [aR 1 0, aI z_4, aR 6 0] V_3 (fun V_5 => (∀ V_6 : Mem, V_6 = mu V_5 2 0 5 ((V_5 2 0 5) + 1) → (∃ j_7 : Nat, (V_6 6 0 3) = nI j_7 ∧ j_7 < 3 ∧ (∀ V_8 : Mem, V_8 = mu V_6 16 0 j_7 z_4 → (fun v X1 => ∃ a, v = some (aI a) ∧ Cl UM (d + 100) mX7_text [aR 24 0] M (fun v2 M1 => v2 = some (aI a) ∧ GR X1 M1)) (some (aI z_4)) V_8))))))) ∧ (¬ (V_3 2 0 5) < 14 → (fun v X1 => ∃ a, v = some (aI a) ∧ Cl UM (d + 100) mX7_text [aR 24 0] M (fun v2 M1 => v2 = some (aI a) ∧ GR X1 M1)) (some (aI (-1000000003))) V_3))) ∧ (x_2 = 0 → (fun v X1 => ∃ a, v = some (aI a) ∧ Cl UM (d + 100) mX7_text [aR 24 0] M (fun v2 M1 => v2 = some (aI a) ∧ GR X1 M1)) (some (aI ((-100) - (V_3 6 0 5)))) V_3)))) x V1) (some (aI 0)) W := by
    intro st1 W hC hE
    refine ⟨_, rfl, fun V3 e3 => f2 ⟨_, rfl, ?_⟩⟩
    have e5 : V3 6 0 5 = nI st1 := by rw [e3, mu_o (by decide), hC.2]
    rw [e5]
    refine hE V3 (fun r i a b c => ?_) (fun k hk => ?_) ?_
    · rw [e3, mu_eq, ma_ne a, hC.1 r i (by omega) (by omega)]
    · rw [e3, mu_sn hk, hC.1 0 0 (by omega) (by omega)]
    · rw [e3, mu_sk]
  have hC0 : ∀ k, k < 3 → ∀ st1 en1 so1, CS X L k st1 en1 so1 [] 0 (ma (ma V5 6 0 (tkf (V5 6 0) st en so)) 6 0 (tkf (upd (ma V5 6 0 (tkf (V5 6 0) st en so) 6 0) 3 (nI k)) st1 en1 so1)) := by
    intro k hk st1 en1 so1
    rw [ma_same, ma_ma]
    unfold tkf
    refine ⟨fun r i q1 q2 => by rw [ma_ne q1, x5 r i q1], ?_, ?_, ?_, ?_, ?_, ?_, fun i c hc => absurd hc (by simp), ?_⟩
    · rw [ma_same, up_n (by omega), up_n (by omega), up_n (by omega), up_s]
    · rw [ma_same, up_n (by omega), up_n (by omega), up_n (by omega), up_n (by omega), up_n (by omega), up_n (by omega), up_n (by omega), y8]
    · rw [ma_same, up_n (by omega), up_n (by omega), up_s]
    · rw [ma_same, up_n (by omega), up_s]
    · rw [ma_same, up_s]
    · rw [ma_same, up_n (by omega), up_n (by omega), up_n (by omega), up_n (by omega), up_n (by omega), up_n (by omega), up_n (by omega), y2]; rfl
    · rw [ma_same, up_n (by omega), up_n (by omega), up_n (by omega), up_n (by omega), up_n (by omega), up_n (by omega), up_n (by omega), y4]
  refine x_readKey (L := L) (tp := X 17 0) (st := st) (en := en) (so := so) ?_ ?_ ?_ hle.2.2.2 hle.2.1 l1 hle.2.2.1 ?_ (fun j hj => ?_) (fun k hk s1 hw hn st1 en1 so1 hX1 => ⟨_, rfl, t1 ?_⟩) (fun no => ⟨_, rfl, f1 ?_⟩)
  · rw [ma_same]; unfold tkf; rw [up_n (by omega), up_n (by omega), up_s]
  · rw [ma_same]; unfold tkf; rw [up_n (by omega), up_s]
  · rw [ma_same]; unfold tkf; rw [up_s]
  · rw [ma_same]; unfold tkf; rw [up_n (by omega), up_n (by omega), up_n (by omega), y8]
  · rw [ma_o (by decide), x5 17 0 (by omega)]
  · -- a key: both go on
    have hC := hC0 k hk st1 en1 so1
    generalize ma (ma V5 6 0 (tkf (V5 6 0) st en so)) 6 0 (tkf (upd (ma V5 6 0 (tkf (V5 6 0) st en so) 6 0) 3 (nI k)) st1 en1 so1) = V7 at hC ⊢
    have hx : Rx (mu M 24 0 12 (nI k)) (X 17 0) L k := ⟨by rw [mu_sn (by omega), l3], l1, fun j hj => by rw [mu_o (by decide), htpM j hj], mu_sk _ _ _ _ _, hk⟩
    have hPs := (x_parse (g := d + 93) (X := X) hx htp 64 0 0 (by omega) (by omega) (by omega) (d + 21)).2 0 (by omega)
    -- the reference fails where the class does
    have FAIL : ∀ (stf : Nat), (∀ Q, (∀ W, RF (mu M 24 0 12 (nI k)) stf W → Q (some (aI 0)) W) → RG (d + 93) Q (mu M 24 0 12 (nI k)) (X 17 0) st1 en1 so1 1 0 [] [] 0 (fun _ => 0)) → ∀ X1 : Mem, (∀ r i, ¬ (r = 0 ∧ i = 0) → ¬ r = 6 → ¬ r = 18 → X1 r i = X r i) → (∀ k, ¬ k = 6 → X1 0 0 k = X 0 0 k) → X1 0 0 6 = 0 → Cl UM (d + 100) mX7_text [aR 24 0] M (fun v2 M1 => v2 = some (aI (-100 - nI stf)) ∧ GR X1 M1) := by
      intro stf hfail X1 a1 a2 a3
      refine clX7_text (I117 := fun _ _ _ _ => False) M (fun _ _ _ _ q => q.elim) ?_
      refine RK st en so hX _ _ (fun k' hk' s1' hw' hn' => ?_) (fun no => ?_)
      · have ek : k' = k := by
          rcases Nat.lt_trichotomy k' k with z | z | z
          · exact absurd hw' (hn k' z)
          · exact z
          · exact absurd hw (hn' k z)
        subst ek
        refine ⟨st1, en1, so1, hX1, fun V8 hB8 hT8 => RE k' st1 en1 so1 _ (hfail _ (fun W hW => ⟨_, rfl, f1 ?_⟩)) V8 hB8 hT8⟩
        refine r_textF hN hR a1 a2 a3 (fun r c1 c2 c3 c4 => ?_) (fun j hj => ?_) hW.2.2
        · rw [hW.1 r 0 (by omega), mu_o c1]
        · rw [hW.2.1 j (by omega), mu_sn (by omega)]
      · rcases no with z | z
        · exact absurd s1 z
        · exact absurd hw (z k hk)
    have e98 : d + 21 + 64 + 7 + (6 - 0) = d + 98 := by omega
    rw [e98] at hPs
    refine hPs V7 st1 en1 so1 [] [] 0 (fun _ => 0) _ hC hX1.tw rfl (Or.inl rfl) (fun _ => rfl) (Nat.zero_le _) (fun V9 st2 en2 so2 ops code1 ys ao1 ts1 d1 d2 d3 d4 d5 d6 d7 d8 d9 d10 d11 => ⟨_, rfl, t1 ?_⟩) (fun V9 st2 d1 d2 => ⟨_, rfl, f1 (CFAIL st2 V9 d1 (FAIL st2 d2))⟩)
    have hle2 := d2.le
    rw [List.nil_append] at d4
    rw [List.append_nil] at d11
    obtain ⟨c1, c2, c3, c4, c5, c6, c7, c8, c9⟩ := id d1
    have n0 : (nI so2 = 0) ↔ so2 = 0 := nI_eq (b := 0) (by omega) (by omega)
    rw [c6]
    refine ⟨fun s0 => ?_, fun s0 => ?_⟩
    · -- something stands behind
      have s0 : ¬ so2 = 0 := fun z => s0 (n0.mpr z)
      refine CFAIL st2 V9 d1.cf (FAIL st2 (fun Q hQ => d11 Q (S_failn hle2.2.2 s0 (by omega) (fun _ z => absurd z.2 (by omega)) (fun q => ?_) hQ)))
      by_cases q5 : sgl (X 17 0 st2) < 5
      · obtain ⟨w1, w2⟩ := d10 q q5 (Nat.zero_le _)
        exact Or.inr ⟨by rw [(sg_ok q5).2.1, w1], w2⟩
      · exact Or.inl (sg_no q5)
    · -- a text
      have s0 : so2 = 0 := n0.mp s0
      have hlen : (code1 ++ ops).length ≤ 96 := by
        rw [List.length_append]
        rw [List.length_nil] at d7
        omega
      have hv : vd (nbk k) (code1 ++ ops) 0 = some 1 := by rw [d4]; exact d5 0
      obtain ⟨out, eo⟩ : ∃ out, out = code1 ++ ops := ⟨_, rfl⟩
      rw [← eo] at c7 c8 hlen hv
      -- the reference, its text read
      have RD1 : ∀ (a0 : Int32) (X1 : Mem) (I : Int32 → Int32 → Int32 → Mem → Prop), (∀ W, RD (mu M 24 0 12 (nI k)) out ao1 W → wpX7_text_33 (Cl UM (d + 99)) I 1 W (fun v2 M1 => v2 = some (aI a0) ∧ GR X1 M1)) → wpX7_text_0 (Cl UM (d + 99)) I M (fun v2 M1 => v2 = some (aI a0) ∧ GR X1 M1) := by
        intro a0 X1 I hp
        refine RK st en so hX _ _ (fun k' hk' s1' hw' hn' => ?_) (fun no => ?_)
        · have ek : k' = k := by
            rcases Nat.lt_trichotomy k' k with z | z | z
            · exact absurd hw' (hn k' z)
            · exact z
            · exact absurd hw (hn' k z)
          subst ek
          refine ⟨st1, en1, so1, hX1, fun V8 hB8 hT8 => RE k' st1 en1 so1 _ (d11 _ (S_end (by omega) s0 (by omega) (fun _ c hc => (op_n11 (d6 c hc).1).1) (fun _ W hW => ⟨_, rfl, t1 (hp W ?_)⟩) (fun z => absurd rfl z))) V8 hB8 hT8⟩
          rw [eo]
          exact hW
        · rcases no with z | z
          · exact absurd s1 z
          · exact absurd hw (z k hk)
      refine ⟨_, rfl, fun W3 a3 => t2 ?_⟩
      have w3 : ∀ r i, ¬ (r = 0 ∧ i = 0) → W3 r i = V9 r i := fun r i z => by rw [a3, mu_eq, ma_ne z]
      have w25 : W3 2 0 5 = nI T := by rw [w3 2 0 (by omega), c1 2 0 (by omega) (by omega), xT]
      rw [w25]
      have nT : (nI T < 14) ↔ T < 14 := nI_ltI (b := 14) (by omega) (by omega)
      have nT' : (nI T = 14) ↔ T = 14 := nI_eq (b := 14) (by omega) (by omega)
      refine ⟨fun c14 z4 ez4 => ?_, fun c14 => ⟨_, rfl, ?_⟩⟩
      · have hT14 := nT.mp c14
        subst ez4
        refine clX0_put (nI T) W3 ?_
        unfold wpX0_put_0
        refine ⟨T, rfl, hT14, fun A2 b2 A3 b3 A4 b4 => ⟨0, 0, out.length, rfl, rfl, ?_, by omega, by omega, fun A8 b8 => ⟨rfl, fun A9 b9 => ⟨k, ?_, hk, fun A10 b10 => ⟨_, rfl, ?_⟩⟩⟩⟩⟩
        · rw [b4, mu_o (by decide), b3, mu_o (by decide), b2, mu_o (by decide), w3 6 0 (by omega), c7]
        · rw [b9, mu_o (by decide), b8, ma_o (by decide), b4, mu_o (by decide), b3, mu_o (by decide), b2, mu_o (by decide), w3 6 0 (by omega), c2]
        · -- what the class has become
          have xo : ∀ r i, ¬ (r = 0 ∧ i = 0) → ¬ (r = 2 ∧ i = 0) → ¬ r = 6 → ¬ (r = 7 ∧ i = 0) → ¬ (r = 8 ∧ i = 0) → ¬ (r = 9 ∧ i = 0) → ¬ (r = 11 ∧ i = T) → ¬ (r = 16 ∧ i = 0) → ¬ r = 18 → A10 r i = X r i := fun r i z0 z2 z6 z7 z8 z9 z11 z16 z18 => by
            rw [b10, mu_eq, ma_ne z16, b9, mu_eq, ma_ne z2, b8, ma_ne z11, b4, mu_eq, ma_ne z9, b3, mu_eq, ma_ne z8, b2, mu_eq, ma_ne z7, w3 r i z0, c1 r i (by omega) (by omega)]
          have xx : ∀ r i, ¬ (r = 6 ∧ i = 0) → ¬ (r = 18 ∧ i = 0) → ¬ (r = 0 ∧ i = 0) → W3 r i = X r i := fun r i z6 z18 z0 => by rw [w3 r i z0, c1 r i z6 z18]
          have x0 : ∀ j, ¬ j = 6 → A10 0 0 j = X 0 0 j := fun j hj => by
            rw [b10, mu_o (by decide), b9, mu_o (by decide), b8, ma_o (by decide), b4, mu_o (by decide), b3, mu_o (by decide), b2, mu_o (by decide), a3, mu_sn hj, c1 0 0 (by omega) (by omega)]
          have x06 : A10 0 0 6 = 0 := by
            rw [b10, mu_o (by decide), b9, mu_o (by decide), b8, ma_o (by decide), b4, mu_o (by decide), b3, mu_o (by decide), b2, mu_o (by decide), a3, mu_sk]
          have x2 : A10 2 0 = upd (X 2 0) 5 (nI (T + 1)) := by
            rw [b10, mu_o (by decide), b9, mu_s, b8, ma_o (by decide), b4, mu_o (by decide), b3, mu_o (by decide), b2, mu_o (by decide), xx 2 0 (by omega) (by omega) (by omega), xT, nI_1]
          have x7 : A10 7 0 = upd (X 7 0) T (nI k) := by
            rw [b10, mu_o (by decide), b9, mu_o (by decide), b8, ma_o (by decide), b4, mu_o (by decide), b3, mu_o (by decide), b2, mu_s, xx 7 0 (by omega) (by omega) (by omega), w3 6 0 (by omega), c2]
          have x8 : A10 8 0 = upd (X 8 0) T (nI ao1) := by
            rw [b10, mu_o (by decide), b9, mu_o (by decide), b8, ma_o (by decide), b4, mu_o (by decide), b3, mu_s, b2, mu_o (by decide), mu_o (by decide), xx 8 0 (by omega) (by omega) (by omega), w3 6 0 (by omega), c9]
          have x9 : A10 9 0 = upd (X 9 0) T (nI out.length) := by
            rw [b10, mu_o (by decide), b9, mu_o (by decide), b8, ma_o (by decide), b4, mu_s, b3, mu_o (by decide), mu_o (by decide), b2, mu_o (by decide), mu_o (by decide), xx 9 0 (by omega) (by omega) (by omega), w3 6 0 (by omega), c7]
          have x11 : ∀ (i : Nat) (c : Int32), out[i]? = some c → A10 11 T i = trc c := fun i c hc => by
            have hi := (List.getElem?_eq_some_iff.mp hc).1
            rw [b10, mu_o (by decide), b9, mu_o (by decide), b8, ma_same, pk_cpy_in (by omega) (by omega), b4, mu_o (by decide), b3, mu_o (by decide), b2, mu_o (by decide), w3 18 0 (by omega), show 0 + (i - 0) = i by omega]
            exact c8 i c hc
          have x16 : A10 16 0 = upd (X 16 0) k (nI T) := by
            rw [b10, mu_s, b9, mu_o (by decide), b8, ma_o (by decide), b4, mu_o (by decide), b3, mu_o (by decide), b2, mu_o (by decide), xx 16 0 (by omega) (by omega) (by omega)]
          have LT : ∀ f i, i + f = out.length → ∀ (W : Mem) (y1 : Int32), (∀ r, ¬ r = 24 → ¬ r = 25 → ¬ r = 32 → ¬ r = 33 → ¬ r = 34 → W r 0 = M r 0) → (∀ j, j = 3 ∨ j = 32 → W 24 0 j = M 24 0 j) → W 24 0 6 = 0 → W 24 0 16 = nI out.length → CR (W 32 0) out → W 25 0 10 = nI T → W 25 0 (107 + 2 * T) = nI (1000 * k + out.length) → W 25 0 (108 + 2 * T) = nI ao1 → (∀ (q : Nat) (c : Int32), q < i → out[q]? = some c → W 25 0 (135 + 96 * T + q) = c) → (∀ j, ¬ j = 107 + 2 * T → ¬ j = 108 + 2 * T → ¬ (135 + 96 * T ≤ j ∧ j < 135 + 96 * T + i) → W 25 0 j = M 25 0 j) → Gq (Kp (d + 100) mX7_text UM (fun v2 M1 => v2 = some (aI (nI T)) ∧ GR A10 M1)) UM cX7_text 4 RX7 117 [(0, aR 24 0), (1, aI y1), (2, aI (nI T)), (3, aI (nI i))] [] W := by
            intro f
            induction f with
            | zero =>
              intro i hi W y1 g1 g2 g3 g4 g5 g6 g7 g8 g9 g10
              have hi : i = out.length := by omega
              subst hi
              refine okX7_text_117 (I117 := fun _ _ _ _ => False) _ _ _ W (fun _ _ _ _ q => q.elim) ?_
              unfold wpX7_text_117
              rw [g4]
              refine ⟨fun _ B1 h1 => ⟨rfl, ?_⟩, fun c => absurd (nI_le (Nat.le_refl _) (by omega)) c⟩
              refine GR.law hN hR hT14 hk hlen hv xo x0 x06 x2 x7 x8 x9 x11 x16 (fun r z1 z2 z3 z4 z5 => by rw [h1, mu_o z2, g1 r z1 z2 z3 z4 z5]) (fun j hj => by rw [h1, mu_o (by decide), g2 j hj]) (by rw [h1, mu_o (by decide), g3]) (by rw [h1, mu_sk, g6, nI_1]) (by rw [h1, mu_sn (by omega), g7]) (by rw [h1, mu_sn (by omega), g8]) (fun i c hc => ?_) (fun j z1 z2 z3 z4 => ?_)
              · rw [h1, mu_sn (by omega)]
                exact g9 i c (List.getElem?_eq_some_iff.mp hc).1 hc
              · rw [h1, mu_sn z1, g10 j z2 z3 z4]
            | succ f ih =>
              intro i hi W y1 g1 g2 g3 g4 g5 g6 g7 g8 g9 g10
              have hil : i < out.length := by omega
              refine okX7_text_117 (I117 := fun u1 u2 u3 W1 => u1 = y1 ∧ u2 = nI T ∧ u3 = nI (i + 1) ∧ W1 = mu W 25 0 (135 + 96 * T + i) (W 32 0 i)) _ _ _ W (fun u1 u2 u3 W1 z => ?_) ?_
              · obtain ⟨rfl, rfl, rfl, hW⟩ := z
                refine ih (i + 1) (by omega) W1 u1 (fun r z1 z2 z3 z4 z5 => by rw [hW, mu_o z2, g1 r z1 z2 z3 z4 z5]) (fun j hj => by rw [hW, mu_o (by decide), g2 j hj]) (by rw [hW, mu_o (by decide), g3]) (by rw [hW, mu_o (by decide), g4]) (by rw [hW, mu_o (by decide)]; exact g5) (by rw [hW, mu_sn (by omega), g6]) (by rw [hW, mu_sn (by omega), g7]) (by rw [hW, mu_sn (by omega), g8]) (fun q c hq hc => ?_) (fun j z1 z2 z3 => ?_)
                · by_cases eq : q = i
                  · subst eq
                    rw [hW, mu_sk]
                    exact g5 q c hc
                  · rw [hW, mu_sn (by omega)]
                    exact g9 q c (by omega) hc
                · rw [hW, mu_sn (by omega), g10 j z1 z2 (by omega)]
              · unfold wpX7_text_117
                rw [g4]
                refine ⟨fun c => absurd c (nI_ge (by omega) (by omega)), fun _ => ⟨i, rfl, by omega, 135 + 96 * T + i, ?_, by omega, fun B4 h4 => ⟨rfl, rfl, nI_1 i, h4⟩⟩⟩
                rw [show (135 : Int32) = nI 135 from rfl, show (96 : Int32) = nI 96 from rfl, pk_mul, nI_add, nI_add]
          refine clX7_text (I117 := fun u1 u2 u3 W => u2 = nI T ∧ u3 = nI 0 ∧ (∀ r, ¬ r = 24 → ¬ r = 25 → ¬ r = 32 → ¬ r = 33 → ¬ r = 34 → W r 0 = M r 0) ∧ (∀ j, j = 3 ∨ j = 32 → W 24 0 j = M 24 0 j) ∧ W 24 0 6 = 0 ∧ W 24 0 16 = nI out.length ∧ CR (W 32 0) out ∧ W 25 0 10 = nI T ∧ W 25 0 (107 + 2 * T) = nI (1000 * k + out.length) ∧ W 25 0 (108 + 2 * T) = nI ao1 ∧ (∀ j, ¬ j = 107 + 2 * T → ¬ j = 108 + 2 * T → W 25 0 j = M 25 0 j)) M (fun u1 u2 u3 W z => ?_) ?_
          · obtain ⟨rfl, rfl, g1, g2, g3, g4, g5, g6, g7, g8, g10⟩ := z
            exact LT out.length 0 (by omega) W u1 g1 g2 g3 g4 g5 g6 g7 g8 (fun q c hq => absurd hq (by omega)) (fun j z1 z2 _ => g10 j z1 z2)
          · refine RD1 _ _ _ (fun W hW => ?_)
            obtain ⟨r1, r2, r3, r4, r5⟩ := hW
            unfold wpX7_text_33
            intro B1 h1
            have m25 : B1 25 0 = M 25 0 := by rw [h1, mu_o (by decide), r1 25 0 (by omega), mu_o (by decide)]
            rw [m25, t1']
            refine t2 ⟨fun _ z2 ez2 => ?_, fun c => ?_⟩
            · subst ez2
              have i107 : (107 : Int32) + 2 * nI T = nI (107 + 2 * T) := by rw [two_nI]; exact nI_add 107 (2 * T)
              refine ⟨107 + 2 * T, i107, by omega, fun B4 h4 => ⟨108 + 2 * T, ?_, by omega, fun B6 h6 => ?_⟩⟩
              · rw [i107, nI_1]; exact congrArg nI (by omega)
              · have b24 : ∀ j, ¬ j = 6 → B1 24 0 j = W 24 0 j := fun j hj => by rw [h1, mu_sn hj]
                refine ⟨rfl, rfl, fun r z1 z2 z3 z4 z5 => ?_, fun j hj => ?_, ?_, ?_, ?_, ?_, ?_, ?_, fun j z1 z2 => ?_⟩
                · rw [h6, mu_o z2, h4, mu_o z2, h1, mu_o z1, r1 r 0 (by omega), mu_o z1]
                · rw [h6, mu_o (by decide), h4, mu_o (by decide), b24 j (by omega), r2 j (by omega), mu_sn (by omega)]
                · rw [h6, mu_o (by decide), h4, mu_o (by decide), h1, mu_sk]
                · rw [h6, mu_o (by decide), h4, mu_o (by decide), b24 16 (by omega), r3]
                · rw [h6, mu_o (by decide), h4, mu_o (by decide), h1, mu_o (by decide)]; exact r4
                · rw [h6, mu_sn (by omega), h4, mu_sn (by omega), m25, t1']
                · rw [h6, mu_sn (by omega), h4, mu_sk, b24 12 (by omega), b24 16 (by omega), r3, r2 12 (by omega), mu_sk, show (1000 : Int32) = nI 1000 from rfl, pk_mul, nI_add]
                · rw [h6, mu_sk, h4, mu_o (by decide), b24 17 (by omega), r5]
                · rw [h6, mu_sn z2, h4, mu_sn z1, m25]
            · have := nT'.mp c
              omega
      · -- no room for one more
        have hT14 : T = 14 := by
          have : ¬ T < 14 := fun z => c14 (nT.mpr z)
          omega
        refine clX7_text (I117 := fun _ _ _ _ => False) M (fun _ _ _ _ q => q.elim) ?_
        refine RD1 _ _ _ (fun W hW => ?_)
        obtain ⟨r1, r2, r3, r4, r5⟩ := hW
        unfold wpX7_text_33
        intro B1 h1
        have m25 : B1 25 0 = M 25 0 := by rw [h1, mu_o (by decide), r1 25 0 (by omega), mu_o (by decide)]
        rw [m25, t1']
        refine t2 ⟨fun c => absurd (nT'.mpr hT14) c, fun _ => ⟨rfl, ?_⟩⟩
        refine GR.tx hN hR (fun r i z0 z6 z18 => by rw [w3 r i z0, c1 r i (by omega) (by omega)]) (fun j hj => by rw [a3, mu_sn hj, c1 0 0 (by omega) (by omega)]) (by rw [a3, mu_sk]) (fun r z1 z2 z3 z4 => by rw [h1, mu_o z1, r1 r 0 (by omega), mu_o z1]) (fun j hj => by rw [h1, mu_sn (by omega), r2 j (by omega), mu_sn (by omega)]) (by rw [h1, mu_sk])
  · -- no key
    refine CFAIL st _ ⟨fun r i q1 q2 => by rw [ma_ne q1, x5 r i q1], by rw [ma_same]; unfold tkf; rw [up_n (by omega), up_n (by omega), up_s]⟩ (fun X1 a1 a2 a3 => ?_)
    refine clX7_text (I117 := fun _ _ _ _ => False) M (fun _ _ _ _ q => q.elim) ?_
    refine RK st en so hX _ _ (fun k' hk' s1' hw' hn' => ?_) (fun _ V4 b1 b2 b3 => r_textF hN hR a1 a2 a3 b1 b2 b3)
    rcases no with z | z
    · exact absurd s1' z
    · exact absurd hw' (z k' hk')
end OPTEXT
