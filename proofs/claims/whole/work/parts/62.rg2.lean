/-! ===== texts: the turns of the reference's loop that want a sign ===== -/
section RGS2
variable {d D : Nat} {V W X M X1 M1 : Mem} {P : Option AV → Mem → Prop} {m h T i j k r t u q m1 h1 s p e st en so so0 L st1 en1 so1 pr ao key lst : Nat} {n n1 tp ts : NF} {a b c x y z kk ss c0 sg : Int32} {w : Bool} {stk code ops S : List Int32}
theorem op_n11 (h : -10 < c ∧ c < 0) : ¬ c = -11 ∧ ¬ c = -10 := by
  refine ⟨fun q => ?_, fun q => ?_⟩
  · rw [q] at h; exact absurd h.1 (by decide)
  · rw [q] at h; exact absurd h.1 (by decide)
theorem S_close (hx : Rx M tp L key) (hso : so = 3) (h41 : tp st = 41) (hops : ∀ c, c ∈ ops → -10 < c ∧ c < 0) (hS : topn S) (hpr : pr < 8) (hlt : st < L ∧ st < en ∧ en ≤ L) (hX : Tok tp L en (wd so) st1 en1 so1) (hG : RG d P M tp st1 en1 so1 0 pr S (code ++ ops ++ rpl k) ao ts) : RG d P M tp st en so 0 (pr + 1) (ops ++ (-11 :: (rpl k ++ S))) code ao ts := by
  obtain ⟨x6, xL, xtp, x12, xk⟩ := hx
  intro V hV
  obtain ⟨hB, hT, hb⟩ := hV
  obtain ⟨b1, b2, b3, b4, b5, b6, b7, b8⟩ := id hB
  obtain ⟨k3, k0, -, -⟩ := tk_of hT (by omega)
  have v10 : V 24 0 10 = 41 := by rw [hT.2.2.2.1 (Or.inr hso), h41]
  have hle := hX.le
  have hlen : (ops ++ (-11 :: (rpl k ++ S))).length = ops.length + (1 + ((rpl k).length + S.length)) := by
    rw [List.length_append, List.length_cons, List.length_append]; omega
  refine okX7_takesE_28 (I28 := fun y1 y2 y3 W => y1 = nI pr ∧ y2 = nI (nc S) ∧ y3 = 0 ∧ RSt M tp st1 en1 so1 pr S (code ++ ops ++ rpl k) ao ts W) _ _ _ V (fun y1 y2 y3 W z => ?_) ?_
  · obtain ⟨rfl, rfl, rfl, hW⟩ := z
    exact hG W hW
  · unfold wpX7_takesE_28 wpX7_takesE_39
    refine f2 ⟨fun q => by have := k0.mp q; omega, fun _ => f1 ⟨fun q => absurd (k3.mpr hso) q, fun _ => ⟨fun q => absurd v10 q, fun _ => ⟨fun q => absurd q (nI_nle (by omega) (by omega)), fun _ => ?_⟩⟩⟩⟩
    refine r_settle (lst := 0) (S := -11 :: (rpl k ++ S)) rfl (by omega) ops code V b6 b7 b3 b4 (fun c hc => ⟨(op_n11 (hops c hc)).1, Nat.zero_le _⟩) (Or.inr ⟨_, _, rfl, Or.inl rfl⟩) (by omega) (fun V1 g1 g2 g3 g4 g5 g6 => ⟨rfl, fun V2 a2 => ?_⟩)
    have f24 : ∀ q, ¬ q = 16 → ¬ q = 19 → V2 24 0 q = V 24 0 q := fun q q1 q2 => by rw [a2, mu_sn q2, g2 q q1 q2]
    have fo : ∀ r i, ¬ (r = 24 ∧ i = 0) → ¬ (r = 32 ∧ i = 0) → V2 r i = V r i := fun r i q1 q2 => by rw [a2, mu_eq, ma_ne q1, g1 r i q1 q2]
    refine r_settle (lst := 6) (S := S) rfl (Nat.le_refl _) (rpl k) (code ++ ops) V2 ?_ ?_ ?_ ?_ ?_ hS ?_ (fun V3 i1 i2 i3 i4 i5 i6 => ⟨rfl, ?_⟩)
    · rw [a2, mu_sk, g5, List.length_cons]; exact nI_pred _
    · rw [a2, mu_o (by decide)]; exact g6.pop.1
    · rw [a2, mu_sn (by omega), g3]
    · rw [a2, mu_o (by decide)]; exact g4
    · intro c hc
      rw [rpl_mem hc]
      exact ⟨by decide, by rw [rnk_m10]; exact Nat.le_refl _⟩
    · rw [List.length_append, List.length_append]; omega
    · have hB3 : RB M pr S (code ++ ops ++ rpl k) ao ts V3 := by
        refine ⟨fun r i q => by rw [i1 r i (by omega) (by omega), fo r i (by omega) (by omega), b1 r i q], fun k q => by rw [i2 k (by omega) (by omega), f24 k (by omega) (by omega), b2 k q], i3, i4, ?_, i5, i6, fun k hk => ?_⟩
        · rw [i2 17 (by omega) (by omega), f24 17 (by omega) (by omega), b5]
        · rw [i1 34 0 (by omega) (by omega), fo 34 0 (by omega) (by omega), b8 k (by omega)]
      have hT3 : RT V3 tp st en so := hT.fr (fun k q1 q2 => by rw [i2 k (by omega) (by omega), f24 k (by omega) (by omega)])
      refine r_notsOpen (stk := S) i5 (by omega) i6 ⟨_, rfl, ?_⟩
      refine r_goS x6 xL xtp hB3 hT3 (by omega) hX (fun V6 j1 j2 => ⟨rfl, pk_m1 pr, rfl, rfl, j1, j2, ?_⟩)
      rw [List.length_append, List.length_append]; omega
theorem sgh_41 : sgh 41 = 0 := by decide
theorem S_sign (hx : Rx M tp L key) (hso : so = 3) (hsg : sgh (tp st) = sg) (hs : -10 < sg ∧ sg < 0) (htst : rnk sg = 3 → ts pr = 0) (hops : ∀ c, c ∈ ops → (-10 < c ∧ c < 0) ∧ rnk sg ≤ rnk c) (hS : S = [] ∨ ∃ c S', S = c :: S' ∧ (c = -11 ∨ rnk c < rnk sg)) (hpr : pr ≤ 8) (hlt : st < L ∧ st < en ∧ en ≤ L) (hX : Tok tp L en (wd so) st1 en1 so1)
    (hG : RG d P M tp st1 en1 so1 1 pr (sg :: S) (code ++ ops) ao (upd ts pr (if rnk sg = 3 ∨ (3 < rnk sg ∧ ¬ ts pr = 0) then 1 else 0))) : RG d P M tp st en so 0 pr (ops ++ S) code ao ts := by
  obtain ⟨x6, xL, xtp, x12, xk⟩ := hx
  intro V hV
  obtain ⟨hB, hT, hb⟩ := hV
  obtain ⟨b1, b2, b3, b4, b5, b6, b7, b8⟩ := id hB
  obtain ⟨k3, k0, -, -⟩ := tk_of hT (by omega)
  have v9 := k3.mpr hso
  have v10 : V 24 0 10 = tp st := hT.2.2.2.1 (Or.inr hso)
  have hle := hX.le
  have hlen : (ops ++ S).length = ops.length + S.length := List.length_append
  have hrk := rnk_le (a := sg)
  have n0 : ¬ sg = 0 := fun q => by rw [q] at hs; exact absurd hs.2 (by decide)
  have n41 : ¬ tp st = 41 := fun q => n0 (by rw [← hsg, q, sgh_41])
  have ncS : nc (ops ++ S) = nc (sg :: S) := by
    rw [nc_app, nc_ops ops (fun c hc => (op_n11 (hops c hc).1).2), nc, if_neg (op_n11 hs).2]
  have r3 : (nI (rnk sg) = 3) ↔ rnk sg = 3 := nI_eq (b := 3) (by omega) (by omega)
  have r3' : (nI (rnk sg) ≤ 3) ↔ rnk sg ≤ 3 := nI_leI (b := 3) (by omega) (by omega)
  refine okX7_takesE_28 (I28 := fun y1 y2 y3 W => y1 = nI pr ∧ y2 = nI (nc (sg :: S)) ∧ y3 = 1 ∧ RSt M tp st1 en1 so1 pr (sg :: S) (code ++ ops) ao (upd ts pr (if rnk sg = 3 ∨ (3 < rnk sg ∧ ¬ ts pr = 0) then 1 else 0)) W) _ _ _ V (fun y1 y2 y3 W z => ?_) ?_
  · obtain ⟨rfl, rfl, rfl, hW⟩ := z
    exact hG W hW
  · have Z : ∀ s0 : Int32, (s0 = 0 ∨ s0 = 1) → s0 = (if rnk sg = 3 ∨ (3 < rnk sg ∧ ¬ ts pr = 0) then 1 else 0) → wpX7_takesE_305 (Cl UM (d + 5)) (fun y1 y2 y3 W => y1 = nI pr ∧ y2 = nI (nc (sg :: S)) ∧ y3 = 1 ∧ RSt M tp st1 en1 so1 pr (sg :: S) (code ++ ops) ao (upd ts pr (if rnk sg = 3 ∨ (3 < rnk sg ∧ ¬ ts pr = 0) then 1 else 0)) W) (nI pr) (nI (nc (ops ++ S))) 0 sg s0 (nI pr) V P := by
      intro s0 hs0 es0
      unfold wpX7_takesE_305
      refine ⟨pr, rfl, by omega, hs0, fun V3 a3 => r_rank ⟨_, rfl, ?_⟩⟩
      refine r_settle (lst := rnk sg) (S := S) rfl hrk ops code V3 ?_ ?_ ?_ ?_ (fun c hc => ⟨(op_n11 (hops c hc).1).1, (hops c hc).2⟩) hS (by omega) (fun V6 g1 g2 g3 g4 g5 g6 => ⟨rfl, S.length, g5, by omega, fun V8 a8 V9 a9 => ?_⟩)
      · rw [a3, mu_o (by decide), b6]
      · rw [a3, mu_o (by decide)]; exact b7
      · rw [a3, mu_o (by decide), b3]
      · rw [a3, mu_o (by decide)]; exact b4
      · have hB9 : RB M pr (sg :: S) (code ++ ops) ao (upd ts pr s0) V9 := by
          refine ⟨fun r i q => ?_, fun k q => ?_, ?_, ?_, ?_, ?_, ?_, fun k hk => ?_⟩
          · rw [a9, mu_o (by omega), a8, mu_o (by omega), g1 r i (by omega) (by omega), a3, mu_o (by omega), b1 r i q]
          · rw [a9, mu_sn (by omega), a8, mu_o (by decide), g2 k (by omega) (by omega), a3, mu_o (by decide), b2 k q]
          · rw [a9, mu_sn (by omega), a8, mu_o (by decide), g3]
          · rw [a9, mu_o (by decide), a8, mu_o (by decide)]; exact g4
          · rw [a9, mu_sn (by omega), a8, mu_o (by decide), g2 17 (by omega) (by omega), a3, mu_o (by decide), b5]
          · rw [a9, mu_sk, a8, mu_o (by decide), g5, nI_1, List.length_cons]
          · rw [a9, mu_o (by decide), a8, mu_s]; exact g6.push sg
          · rw [a9, mu_o (by decide), a8, mu_o (by decide), g1 34 0 (by omega) (by omega), a3, mu_s]
            by_cases e : k = pr
            · rw [e, up_s, up_s]
            · rw [up_n e, up_n e, b8 k hk]
        have hT9 : RT V9 tp st en so := hT.fr (fun k q1 q2 => by rw [a9, mu_sn (by omega), a8, mu_o (by decide), g2 k (by omega) (by omega), a3, mu_o (by decide)])
        refine r_goS x6 xL xtp hB9 hT9 (by omega) hX (fun V10 j1 j2 => ⟨rfl, rfl, by rw [ncS], rfl, ?_, j2, ?_⟩)
        · rw [← es0]; exact j1
        · rw [List.length_append, List.length_cons]; omega
    have Z268 : wpX7_takesE_268 (Cl UM (d + 5)) (fun y1 y2 y3 W => y1 = nI pr ∧ y2 = nI (nc (sg :: S)) ∧ y3 = 1 ∧ RSt M tp st1 en1 so1 pr (sg :: S) (code ++ ops) ao (upd ts pr (if rnk sg = 3 ∨ (3 < rnk sg ∧ ¬ ts pr = 0) then 1 else 0)) W) (nI pr) (nI (nc (ops ++ S))) 0 sg V P := by
      unfold wpX7_takesE_268 wpX7_takesE_300 wpX7_takesE_304
      refine r_rank ⟨_, rfl, fun c => Z 1 (Or.inr rfl) (by rw [if_pos (Or.inl (r3.mp c))]), fun c => r_rank ⟨_, rfl, fun c2 => Z 0 (Or.inl rfl) ?_, fun c2 => ⟨pr, rfl, by omega, fun c3 => Z 0 (Or.inl rfl) ?_, fun c3 => Z 1 (Or.inr rfl) ?_⟩⟩⟩
      · have h1 := r3'.mp c2
        have h2 : ¬ rnk sg = 3 := fun q => c (r3.mpr q)
        rw [if_neg (by omega)]
      · rw [b8 pr (Nat.le_refl _)] at c3
        rw [if_neg (fun q => ?_)]
        rcases q with q | q
        · exact c (r3.mpr q)
        · exact q.2 c3
      · rw [b8 pr (Nat.le_refl _)] at c3
        have h1 : ¬ rnk sg ≤ 3 := fun q => c2 (r3'.mpr q)
        rw [if_pos (Or.inr ⟨by omega, c3⟩)]
    have Z237 : wpX7_takesE_237 (Cl UM (d + 5)) (fun y1 y2 y3 W => y1 = nI pr ∧ y2 = nI (nc (sg :: S)) ∧ y3 = 1 ∧ RSt M tp st1 en1 so1 pr (sg :: S) (code ++ ops) ao (upd ts pr (if rnk sg = 3 ∨ (3 < rnk sg ∧ ¬ ts pr = 0) then 1 else 0)) W) (nI pr) (nI (nc (ops ++ S))) 0 V P := by
      unfold wpX7_takesE_237
      refine r_signHere (fun _ => ⟨_, rfl, ?_⟩) (fun q => absurd v9 q)
      rw [v10, hsg]
      refine ⟨fun q => absurd q n0, fun _ => r_rank ⟨_, rfl, fun _ => Z268, fun c => ⟨pr, rfl, by omega, fun _ => Z268, fun c2 => absurd ?_ c2⟩⟩⟩
      rw [b8 pr (Nat.le_refl _)]
      exact htst (r3.mp c)
    unfold wpX7_takesE_28 wpX7_takesE_39
    exact f2 ⟨fun q => by have := k0.mp q; omega, fun _ => f1 ⟨fun q => absurd v9 q, fun _ => ⟨fun _ => Z237, fun q => absurd (by rw [← v10]; exact q) n41⟩⟩⟩
theorem S_failn (hso : so ≤ 4) (h0 : ¬ so = 0) (hpr : pr ≤ 8) (hno : so = 3 → ¬ (tp st = 41 ∧ 0 < pr)) (hsg : so = 3 → sgh (tp st) = 0 ∨ (rnk (sgh (tp st)) = 3 ∧ ¬ ts pr = 0)) (hP : ∀ V, RF M st V → P (some (aI 0)) V) : RG d P M tp st en so 0 pr stk code ao ts := by
  intro V hV
  obtain ⟨hB, hT, hb⟩ := hV
  obtain ⟨b1, b2, b3, b4, b5, b6, b7, b8⟩ := id hB
  obtain ⟨k3, k0, -, -⟩ := tk_of hT hso
  have fin := hP V ⟨b1, b2, hT.1⟩
  refine okX7_takesE_28 (I28 := fun _ _ _ _ => False) _ _ _ V (fun _ _ _ _ q => q.elim) ?_
  have Z237 : wpX7_takesE_237 (Cl UM (d + 5)) (fun _ _ _ _ => False) (nI pr) (nI (nc stk)) 0 V P := by
    unfold wpX7_takesE_237
    refine r_signHere (fun c => ⟨_, rfl, ?_⟩) (fun q => ⟨_, rfl, f1 fin⟩)
    have h3 := k3.mp c
    rw [hT.2.2.2.1 (Or.inr h3)]
    rcases hsg h3 with q | q
    · rw [q]
      exact f1 fin
    · refine ⟨fun _ => fin, fun _ => r_rank ⟨_, rfl, fun c2 => absurd ?_ c2, fun _ => ⟨pr, rfl, by omega, fun c2 => absurd ?_ q.2, fun _ => fin⟩⟩⟩
      · rw [q.1]; rfl
      · rw [← b8 pr (Nat.le_refl _)]; exact c2
  unfold wpX7_takesE_28 wpX7_takesE_39
  refine f2 ⟨fun q => absurd (k0.mp q) h0, fun _ => f1 ⟨fun _ => Z237, fun q => ⟨fun _ => Z237, fun q2 => ⟨fun _ => Z237, fun q3 => ?_⟩⟩⟩⟩
  have h3 := k3.mp q
  rw [hT.2.2.2.1 (Or.inr h3)] at q2
  have : ¬ 0 < pr := fun z => hno h3 ⟨q2, z⟩
  exact absurd (by rw [show pr = 0 by omega]; decide) q3
theorem split_open : ∀ stk : List Int32, ∃ ops S, stk = ops ++ S ∧ (∀ c, c ∈ ops → ¬ c = -11) ∧ (S = [] ∨ ∃ S', S = -11 :: S')
  | [] => ⟨[], [], rfl, fun c hc => absurd hc List.not_mem_nil, Or.inl rfl⟩
  | c :: l => by
    by_cases e : c = -11
    · exact ⟨[], c :: l, rfl, fun c hc => absurd hc List.not_mem_nil, Or.inr ⟨l, by rw [e]⟩⟩
    · obtain ⟨ops, S, h1, h2, h3⟩ := split_open l
      refine ⟨c :: ops, S, by rw [h1]; rfl, fun c1 hc1 => ?_, h3⟩
      rcases List.mem_cons.mp hc1 with q | q
      · rw [q]; exact e
      · exact h2 c1 q
theorem S_end (hL : st ≤ 96) (hso : so = 0) (hpr : pr ≤ 8) (hops : pr = 0 → ∀ c, c ∈ stk → ¬ c = -11) (hP1 : pr = 0 → ∀ V, RD M (code ++ stk) ao V → P (some (aI 1)) V) (hP0 : ¬ pr = 0 → ∀ V, RF M st V → P (some (aI 0)) V) : RG d P M tp st en so 0 pr stk code ao ts := by
  intro V hV
  obtain ⟨hB, hT, hb⟩ := hV
  obtain ⟨b1, b2, b3, b4, b5, b6, b7, b8⟩ := id hB
  obtain ⟨k3, k0, -, -⟩ := tk_of hT (by omega)
  have n0 : (nI pr = 0) ↔ pr = 0 := nI_eq (b := 0) (by omega) (by omega)
  refine okX7_takesE_28 (I28 := fun _ _ _ _ => False) _ _ _ V (fun _ _ _ _ q => q.elim) ?_
  unfold wpX7_takesE_28
  refine f2 ⟨fun _ => ?_, fun q => absurd (k0.mpr hso) q⟩
  by_cases hp0 : pr = 0
  · refine r_settle (lst := 0) (S := []) rfl (by omega) stk code V (by rw [List.append_nil]; exact b6) (by rw [List.append_nil]; exact b7) b3 b4 (fun c hc => ⟨hops hp0 c hc, Nat.zero_le _⟩) (Or.inl rfl) (by rw [List.append_nil]; omega) (fun V1 g1 g2 g3 g4 g5 g6 => ⟨rfl, fun c => absurd (n0.mpr hp0) c, fun _ => hP1 hp0 V1 ⟨fun r i q => ?_, fun k q => ?_, g3, g4, ?_⟩⟩)
    · rw [g1 r i (by omega) (by omega), b1 r i q]
    · rw [g2 k (by omega) (by omega), b2 k q]
    · rw [g2 17 (by omega) (by omega), b5]
  · obtain ⟨ops, S, e1, e2, e3⟩ := split_open stk
    subst e1
    refine r_settle (lst := 0) (S := S) rfl (by omega) ops code V b6 b7 b3 b4 (fun c hc => ⟨e2 c hc, Nat.zero_le _⟩) (e3.imp id (fun ⟨S', q⟩ => ⟨_, S', q, Or.inl rfl⟩)) (by omega) (fun V1 g1 g2 g3 g4 g5 g6 => ⟨rfl, fun _ => hP0 hp0 V1 ⟨fun r i q => ?_, fun k q => ?_, ?_⟩, fun c => absurd (n0.mp c) hp0⟩)
    · rw [g1 r i (by omega) (by omega), b1 r i q]
    · rw [g2 k (by omega) (by omega), b2 k q]
    · rw [g2 8 (by omega) (by omega), hT.1]
end RGS2
