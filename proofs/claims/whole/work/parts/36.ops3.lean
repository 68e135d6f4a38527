/-! ===== the calls, side by side: told, sweep, use, set, weather, kilos, fine ===== -/
section OPS3
variable {d D : Nat} {V W X M X1 M1 : Mem} {P : Option AV → Mem → Prop} {w m h T i j k r t u q m1 h1 : Nat} {n n1 : NF} {a b c x y z kk ss : Int32} {B B1 : Int}
/-- the same answer, nothing changed but what is scratch -/
theorem op_told (hG : GR X M) : OP (d + 12) mX6_told mX7_told [aI a, aI b] X M := by
  obtain ⟨m, T, h, hN, hR⟩ := id hG
  have hm := hN.1.1.2.1
  have hh := hN.2
  have hX : X 2 0 6 = nI m := hN.1.1.many
  have hM : M 25 0 1 = nI m := hN.1.1.1
  have h2 : M 25 0 2 = nI h := hN.1.2.2.2.2.2.2
  refine clX6_told a b X ?_
  unfold wpX6_told_0
  by_cases hc : 0 ≤ a ∧ a ≤ nI m - 1
  · obtain ⟨j, hj, ea⟩ := isRoof_of hm hc
    have hr := hN.1.2.1.1 j hj
    unfold rok at hr
    obtain ⟨q1, q2, q3, q4, q5, q6, q7⟩ := id hN.1
    have e0 := q1.rf hj (j := 0) (by omega)
    have e1 := q1.rf hj (j := 1) (by omega)
    rw [show 59 + 6 * j + 0 = 59 + 6 * j by omega] at e0
    rw [show 59 + 6 * j + 1 = 60 + 6 * j by omega] at e1
    refine xrT hX hc ⟨_, rfl, t2 ⟨j, ea, by omega, ?_⟩⟩
    have G : ∀ (k : Nat) (a0 : Int32), k < 6 → b = nI k → a0 = M 25 0 (59 + 6 * j + k) → Cl UM (d + 12) mX7_told [aR 24 0, aI a, aI b] M (fun v2 M1 => v2 = some (aI a0) ∧ GR X M1) := by
      intro k a0 hk eb ha0
      refine clX7_told a b M ?_
      unfold wpX7_told_0
      have K : cI (Cl UM (d + 11)) mX7_of [aR 24 0, aI a, aI b] M (fun x V1 => (fun v2 M1 => v2 = some (aI a0) ∧ GR X M1) (some (aI x)) V1) := r_of (k := k) ea eb (by omega) ⟨_, rfl, by rw [ha0], hG⟩
      refine rrT hM hc ⟨_, rfl, t2 ⟨fun _ => K, fun _ => K, fun _ => K, fun _ => K, fun _ => K, fun _ => K, fun c => ?_, fun c => ?_, fun c => ?_, fun c => ?_, fun c => ?_, fun c => ?_⟩⟩
      · rw [eb] at c; exact absurd ((nI_eq (b := 6) (by omega) (by omega)).mp c) (by omega)
      · rw [eb] at c; exact absurd ((nI_eq (b := 7) (by omega) (by omega)).mp c) (by omega)
      · rw [eb] at c; exact absurd ((nI_eq (b := 8) (by omega) (by omega)).mp c) (by omega)
      · rw [eb] at c; exact absurd ((nI_eq (b := 9) (by omega) (by omega)).mp c) (by omega)
      · rw [eb] at c; exact absurd ((nI_eq (b := 10) (by omega) (by omega)).mp c) (by omega)
      · rcases (show k = 0 ∨ k = 1 ∨ k = 2 ∨ k = 3 ∨ k = 4 ∨ k = 5 by omega) with e | e | e | e | e | e <;> (subst e; rw [eb] at c; exact absurd rfl (by first | exact c.1 | exact c.2.1 | exact c.2.2.1 | exact c.2.2.2.1 | exact c.2.2.2.2.1 | exact c.2.2.2.2.2.1))
    refine ⟨fun c => ⟨_, rfl, G 0 _ (by omega) c (q1.rf hj (by omega))⟩, fun c => ⟨_, rfl, G 1 _ (by omega) c (q1.rf hj (by omega))⟩, fun c => ⟨_, rfl, G 2 _ (by omega) c (q1.rf hj (by omega))⟩, fun c => ⟨_, rfl, G 3 _ (by omega) c (q1.rf hj (by omega))⟩, fun c => ⟨_, rfl, G 4 _ (by omega) c (q1.rf hj (by omega))⟩, fun c => ⟨_, rfl, G 5 _ (by omega) c (q1.rf hj (by omega))⟩, fun c => ?_, fun c => ?_, fun c => ?_, fun c => ?_, fun c => ?_, fun c => ⟨_, rfl, ?_⟩⟩
    · subst c
      refine x_warmth (by omega) q1 hj h2 (by omega) ⟨_, rfl, _, rfl, ?_⟩
      refine clX7_told a 6 M ?_
      unfold wpX7_told_0
      refine rrT hM hc ⟨_, rfl, t2 ⟨fun c => absurd c (by decide), fun c => absurd c (by decide), fun c => absurd c (by decide), fun c => absurd c (by decide), fun c => absurd c (by decide), fun c => absurd c (by decide), fun _ => ?_, fun c => absurd c (by decide), fun c => absurd c (by decide), fun c => absurd c (by decide), fun c => absurd c (by decide), fun c => absurd rfl c.2.2.2.2.2.2.1⟩⟩
      exact r_warmth h2 (by omega) ea (by omega) ⟨_, rfl, rfl, hG⟩
    · subst c
      refine x_melts (T := T) (by omega) q1 q2 q3 q4 q5 q6 hj h2 (by omega) (fun s => ⟨_, rfl, _, rfl, ?_⟩)
      refine clX7_told a 7 M ?_
      unfold wpX7_told_0
      refine rrT hM hc ⟨_, rfl, t2 ⟨fun c => absurd c (by decide), fun c => absurd c (by decide), fun c => absurd c (by decide), fun c => absurd c (by decide), fun c => absurd c (by decide), fun c => absurd c (by decide), fun c => absurd c (by decide), fun _ => ?_, fun c => absurd c (by decide), fun c => absurd c (by decide), fun c => absurd c (by decide), fun c => absurd rfl c.2.2.2.2.2.2.2.1⟩⟩
      exact r_melts q4 h2 (by omega) ea (by omega) (fun f1 s1 => ⟨_, rfl, rfl, GR.scr hN hR⟩)
    · subst c
      refine x_bears (by omega) (by rw [e0]; omega) ⟨_, rfl, _, rfl, ?_⟩
      refine clX7_told a 8 M ?_
      unfold wpX7_told_0
      refine rrT hM hc ⟨_, rfl, t2 ⟨fun c => absurd c (by decide), fun c => absurd c (by decide), fun c => absurd c (by decide), fun c => absurd c (by decide), fun c => absurd c (by decide), fun c => absurd c (by decide), fun c => absurd c (by decide), fun c => absurd c (by decide), fun _ => ?_, fun c => absurd c (by decide), fun c => absurd c (by decide), fun c => absurd rfl c.2.2.2.2.2.2.2.2.1⟩⟩
      exact r_bears ea (by omega) ⟨_, rfl, by rw [e0, e1]; rfl, hG⟩
    · subst c
      have F : ∀ (s : NF) (a0 : Int32), (gO (M 25 0) T h j = 0 → a0 = 0) → (¬ gO (M 25 0) T h j = 0 → a0 = 1) → Cl UM (d + 12) mX7_told [aR 24 0, aI a, aI 9] M (fun v2 M1 => v2 = some (aI a0) ∧ GR (ma X 12 0 s) M1) := by
        intro s a0 g1 g2
        refine clX7_told a 9 M ?_
        unfold wpX7_told_0
        refine rrT hM hc ⟨_, rfl, t2 ⟨fun c => absurd c (by decide), fun c => absurd c (by decide), fun c => absurd c (by decide), fun c => absurd c (by decide), fun c => absurd c (by decide), fun c => absurd c (by decide), fun c => absurd c (by decide), fun c => absurd c (by decide), fun c => absurd c (by decide), fun _ => ?_, fun c => absurd c (by decide), fun c => absurd rfl c.2.2.2.2.2.2.2.2.2.1⟩⟩
        refine r_owns q4 h2 (by omega) ea (by omega) (fun f1 s1 => ⟨_, rfl, fun c => ⟨by rw [g1 c], GR.scr hN hR⟩, fun c => ⟨by rw [g2 c], GR.scr hN hR⟩⟩)
      refine x_owns (T := T) (by omega) q1 q4 q5 q6 hj h2 (by omega) (fun s => ⟨_, rfl, fun c => ⟨_, rfl, F s 0 (fun _ => rfl) (fun z => absurd c z)⟩, fun c => ⟨_, rfl, F s 1 (fun z => absurd z c) (fun _ => rfl)⟩⟩)
    · subst c
      refine x_worth (by omega) (by rw [e1]; omega) ⟨_, rfl, _, rfl, ?_⟩
      refine clX7_told a 10 M ?_
      unfold wpX7_told_0
      refine rrT hM hc ⟨_, rfl, t2 ⟨fun c => absurd c (by decide), fun c => absurd c (by decide), fun c => absurd c (by decide), fun c => absurd c (by decide), fun c => absurd c (by decide), fun c => absurd c (by decide), fun c => absurd c (by decide), fun c => absurd c (by decide), fun c => absurd c (by decide), fun c => absurd c (by decide), fun _ => ?_, fun c => absurd rfl c.2.2.2.2.2.2.2.2.2.2⟩⟩
      exact r_worth ea (by omega) ⟨_, rfl, by rw [e0, e1], hG⟩
    · refine clX7_told a b M ?_
      unfold wpX7_told_0
      obtain ⟨c0, c1, c2, c3, c4, c5, c6, c7, c8, c9, c10⟩ := c
      exact rrT hM hc ⟨_, rfl, t2 ⟨fun z => absurd z c0, fun z => absurd z c1, fun z => absurd z c2, fun z => absurd z c3, fun z => absurd z c4, fun z => absurd z c5, fun z => absurd z c6, fun z => absurd z c7, fun z => absurd z c8, fun z => absurd z c9, fun z => absurd z c10, fun _ => ⟨rfl, hG⟩⟩⟩
  · refine xrF hX hc ⟨_, rfl, f2 ⟨_, rfl, ?_⟩⟩
    refine clX7_told a b M ?_
    unfold wpX7_told_0
    exact rrF hM hc ⟨_, rfl, f2 ⟨rfl, hG⟩⟩
/-- min said in two ways -/
theorem min_wi {s g : Int32} (hs : 0 ≤ s.toInt) (hg : 0 ≤ g.toInt) : (if s < g then s else g) = wi g 0 s := by
  unfold wi
  rw [if_neg (show ¬ g < 0 from fun q => by rw [ti_lt, ti0] at q; omega)]
theorem op_sweep (hG : GR X M) : OP (d + 12) mX6_sweep mX7_sweep [aI a, aI b] X M := by
  obtain ⟨m, T, h, hN, hR⟩ := id hG
  have hm := hN.1.1.2.1
  have hh := hN.2
  have hX : X 2 0 6 = nI m := hN.1.1.many
  have hM : M 25 0 1 = nI m := hN.1.1.1
  refine clX6_sweep a b X ?_
  unfold wpX6_sweep_0
  by_cases hc : 0 ≤ a ∧ a ≤ nI m - 1
  · obtain ⟨j, hj, ea⟩ := isRoof_of hm hc
    refine xrT hX hc ⟨_, rfl, t1 ?_⟩
    by_cases hc2 : 1 ≤ b ∧ b ≤ 9999
    · have hb := rng_of (l := 1) (u := 9999) rfl rfl hc2
      obtain ⟨q1, q2, q3, q4, q5, q6, q7⟩ := id hN.1
      have hr := q2.1 j hj
      have hr' := hr
      unfold rok at hr'
      obtain ⟨p1, p4, p5, p6, p7, p9, pm⟩ := id q2
      have hmp := msr_pos m p1
      have e5 := q1.rf hj (j := 5) (by omega)
      rw [show 59 + 6 * j + 5 = 64 + 6 * j by omega] at e5
      have e10 : X 2 0 10 = M 25 0 4 := q1.sc 4 (by omega)
      have e14 : X 2 0 14 = M 25 0 8 := q1.sc 8 (by omega)
      refine xwT hc2 ⟨_, rfl, t2 ⟨j, ea, by omega, fun z6 ez6 z7 ez7 X8 e8 X9 e9 X10 eX10 => ⟨z7, rfl, ?_⟩⟩⟩
      have e98 : ((9999 : Int32) - M 25 0 (64 + 6 * j)).toInt = 9999 - (M 25 0 (64 + 6 * j)).toInt := by rw [ti_sub (by rw [ti9999]; omega) (by rw [ti9999]; omega), ti9999]
      have w6 : z6 = wi b 0 (M 25 0 4) := by rw [ez6, e10]; exact min_wi p4 (by omega)
      have r6 := wi_ti (v := b) (a := 0) (b := M 25 0 4)
      rw [← w6, ti0, if_neg (by omega)] at r6
      have r6' : 0 ≤ z6.toInt ∧ z6.toInt ≤ (M 25 0 4).toInt := by split at r6 <;> omega
      have w7 : z7 = wi z6 0 (9999 - M 25 0 (64 + 6 * j)) := by rw [ez7, e5]; exact min_wi (by omega) (by omega)
      have r7 := wi_ti (v := z6) (a := 0) (b := 9999 - M 25 0 (64 + 6 * j))
      rw [← w7, ti0, if_neg (by omega), e98] at r7
      have r7' : 0 ≤ z7.toInt ∧ z7.toInt ≤ z6.toInt ∧ z7.toInt ≤ 9999 - (M 25 0 (64 + 6 * j)).toInt := by split at r7 <;> omega
      have eX : X10 = mu (mu (mu X 2 0 10 (M 25 0 4 - z7)) 3 (8 * 0 + j) 5 (M 25 0 (64 + 6 * j) + z7)) 2 0 14 (M 25 0 8 + z7) := by
        rw [eX10, e9, e8, e10, mu_o (show ¬ 3 = 2 by decide), e5, mu_o (show ¬ 2 = 3 by decide), mu_sn (show ¬ 14 = 10 by omega), e14]
      refine clX7_sweep a b M ?_
      unfold wpX7_sweep_0
      refine rrT hM hc ⟨_, rfl, t1 ?_⟩
      refine rwT hc2 ⟨_, rfl, t2 ?_⟩
      refine r_within ⟨_, rfl, ?_⟩
      refine r_of (k := 5) ea rfl (by omega) ⟨_, rfl, ?_⟩
      refine r_within ⟨_, rfl, fun M11 g11 => ?_⟩
      rw [show 59 + 6 * j + 5 = 64 + 6 * j by omega, ← w6, ← w7] at g11 ⊢
      refine r_of (k := 5) ea rfl (by omega) ⟨_, rfl, ?_⟩
      refine r_put (k := 5) ea rfl (by omega) ⟨rfl, fun M15 g15 => ⟨rfl, ?_⟩⟩
      have eM : M15 = ma M 25 0 (upd (upd (upd (M 25 0) 4 (M 25 0 4 - z7)) (64 + 6 * j) (M 25 0 (64 + 6 * j) + z7)) 8 (M 25 0 8 + z7)) := by
        rw [g15, g11]
        simp only [mu_eq, ma_same, ma_ma]
        rw [show 59 + 6 * j + 5 = 64 + 6 * j by omega, up_n (show ¬ 64 + 6 * j = 4 by omega), up_n (show ¬ 8 = 64 + 6 * j by omega), up_n (show ¬ 8 = 4 by omega)]
      have hFr : FR 0 X X10 := by rw [eX]; exact ((FR.rf.mu2).mu3 (by omega)).mu2
      have hRW : RW X10 0 (upd (upd (upd (M 25 0) 4 (M 25 0 4 - z7)) (64 + 6 * j) (M 25 0 (64 + 6 * j) + z7)) 8 (M 25 0 8 + z7)) m := by
        have := ((q1.set 4 (by omega) (by omega) (M 25 0 4 - z7)).roof hj (j := 5) (by omega) (M 25 0 (64 + 6 * j) + z7)).set 8 (by omega) (by omega) (M 25 0 8 + z7)
        rw [show 59 + 6 * j + 5 = 64 + 6 * j by omega] at this
        rw [eX]
        exact this
      rw [eM]
      refine ⟨m, T, h, ⟨?_, hN.2⟩, hR.eq (fr_now hFr) (ma_now (Or.inl rfl))⟩
      rw [ma_same]
      refine hN.1.mod hRW ?_ (((q3.out (by omega)).out (by omega)).out (by omega)) ?_ (fun i hi => ?_) ?_ (fr_L hFr)
      · have t4 : (M 25 0 4 - z7).toInt = (M 25 0 4).toInt - z7.toInt := ti_sub (by omega) (by omega)
        have t5 : (M 25 0 (64 + 6 * j) + z7).toInt = (M 25 0 (64 + 6 * j)).toInt + z7.toInt := ti_add (by omega) (by omega)
        refine WI.out ?_ (by omega)
        refine ⟨fun i hi => ?_, ?_, ?_, ?_, ?_, ?_, ?_⟩
        · by_cases e : i = j
          · subst e
            refine ((p1 i hi).out (by omega)).sno (by omega) (by omega)
          · exact ((p1 i hi).out (by omega)).out (by omega)
        · rw [up_n (by omega), up_s]; omega
        · rw [up_n (by omega), up_n (by omega)]; exact p5
        · rw [up_n (by omega), up_n (by omega)]; exact p6
        · rw [up_n (by omega), up_n (by omega)]; exact p7
        · rw [up_n (by omega), up_n (by omega)]; exact p9
        · rw [msr_sno m hj, msr_out m (fun i hi => by omega), up_n (show ¬ 64 + 6 * j = 4 by omega), up_n (show ¬ 4 = 64 + 6 * j by omega), up_s, up_n (show ¬ 5 = 64 + 6 * j by omega), up_n (show ¬ 5 = 4 by omega), up_n (show ¬ 6 = 64 + 6 * j by omega), up_n (show ¬ 6 = 4 by omega), up_n (show ¬ 7 = 64 + 6 * j by omega), up_n (show ¬ 7 = 4 by omega), up_n (show ¬ 9 = 64 + 6 * j by omega), up_n (show ¬ 9 = 4 by omega)]
          omega
      · rw [up_n (by omega), up_n (by omega), up_n (by omega)]
      · rw [up_n (by omega), up_n (by omega), up_n (by omega)]
      · rw [up_n (by omega), up_n (by omega), up_n (by omega)]; exact q7
    · refine xwF hc2 ⟨_, rfl, f2 ⟨_, rfl, ?_⟩⟩
      refine clX7_sweep a b M ?_
      unfold wpX7_sweep_0
      exact rrT hM hc ⟨_, rfl, t1 (rwF hc2 ⟨_, rfl, f2 ⟨rfl, hG⟩⟩)⟩
  · refine xrF hX hc ⟨_, rfl, f1 ⟨_, rfl, ?_⟩⟩
    refine clX7_sweep a b M ?_
    unfold wpX7_sweep_0
    exact rrF hM hc ⟨_, rfl, f1 ⟨rfl, hG⟩⟩
end OPS3
