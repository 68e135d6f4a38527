/-! ===== the calls, side by side: use, weather, set ===== -/
section OPS4
variable {d D : Nat} {V W X M X1 M1 : Mem} {P : Option AV → Mem → Prop} {w m h T i j k r t u q m1 h1 : Nat} {n n1 : NF} {a b c x y z kk ss : Int32} {B B1 : Int}
/-- now's row becomes another one -/
theorem GR.now (hN : NowR X M m T h) (hR : Rst X M T) (hX : ∀ r i, ¬ nowX r i → X1 r i = X r i) (h16 : X1 16 0 = X 16 0) (hRW : RW X1 0 n1 m) (hI : WI n1 m (738 * (h : Int))) (hs : sky n1)
    (ho : ∀ j, j = 2 ∨ j = 10 ∨ 107 ≤ j → n1 j = M 25 0 j) : GR X1 (ma M 25 0 n1) := by
  refine ⟨m, T, h, ⟨?_, hN.2⟩, hR.eq hX (ma_now (Or.inl rfl))⟩
  rw [ma_same]
  obtain ⟨q1, q2, q3, q4, q5, q6, q7⟩ := id hN.1
  refine ⟨hRW, hI, hs, q4.cong (ho 10 (by omega)) (fun j hj => ho j (by omega)), LW.cong (fun t ht => ?_) (fun j hj => ho j (by omega)), CW.cong (fun k hk => ?_) (fun j hj => ho j (by omega)), (ho 2 (by omega)).trans q7⟩
  · rw [hX 7 0 (nX_o rfl), hX 8 0 (nX_o rfl), hX 9 0 (nX_o rfl), hX 11 t (nX_o rfl)]
    exact q5 t ht
  · rw [h16]
    exact q6 k hk
theorem GR.fr (hN : NowR X M m T h) (hR : Rst X M T) (hF : FR 0 X X1) (hRW : RW X1 0 n1 m) (hI : WI n1 m (738 * (h : Int))) 
    (ho : ∀ j, j = 2 ∨ (10 ≤ j ∧ j < 59) ∨ 107 ≤ j → n1 j = M 25 0 j) : GR X1 (ma M 25 0 n1) :=
  GR.now hN hR (fr_now hF) (hF 16 0 (by unfold foot; omega)) hRW hI (hN.1.2.2.1.eq (fun j q1 q2 => ho j (by omega))) (fun j q => ho j (by omega))
theorem op_use (hG : GR X M) : OP (d + 12) mX6_use mX7_use [aI a, aI b] X M := by
  obtain ⟨m, T, h, hN, hR⟩ := id hG
  have hm := hN.1.1.2.1
  have hh := hN.2
  have hX : X 2 0 6 = nI m := hN.1.1.many
  have hM : M 25 0 1 = nI m := hN.1.1.1
  refine clX6_use a b X ?_
  unfold wpX6_use_0
  by_cases hc : 0 ≤ a ∧ a ≤ nI m - 1
  · obtain ⟨j, hj, ea⟩ := isRoof_of hm hc
    refine xrT hX hc ⟨_, rfl, t1 ?_⟩
    by_cases hc2 : 1 ≤ b ∧ b ≤ 999
    · obtain ⟨q1, q2, q3, q4, q5, q6, q7⟩ := id hN.1
      obtain ⟨p1, p4, p5, p6, p7, p9, pm⟩ := id q2
      have hb := rng_of (l := 1) (u := 999) rfl rfl hc2
      have hr := p1 j hj
      unfold rok at hr
      have hp := msr_pos m p1
      have e4 := q1.rf hj (j := 4) (by omega)
      rw [show 59 + 6 * j + 4 = 63 + 6 * j by omega] at e4
      have e15 : X 2 0 15 = M 25 0 9 := q1.sc 9 (by omega)
      refine xwT hc2 ⟨_, rfl, t2 ⟨j, ea, by omega, fun z6 ez6 X7 e7 X8 e8 => ⟨z6, rfl, ?_⟩⟩⟩
      have w6 : z6 = wi b 0 (M 25 0 (63 + 6 * j)) := by rw [ez6, e4]; exact min_wi (by omega) (by omega)
      have r6 := wi_ti (v := b) (a := 0) (b := M 25 0 (63 + 6 * j))
      rw [← w6, ti0, if_neg (by omega)] at r6
      have r6' : 0 ≤ z6.toInt ∧ z6.toInt ≤ (M 25 0 (63 + 6 * j)).toInt := by split at r6 <;> omega
      have eX : X8 = mu (mu X 3 (8 * 0 + j) 4 (M 25 0 (63 + 6 * j) - z6)) 2 0 15 (M 25 0 9 + z6) := by
        rw [e8, e7, e4, mu_o (show ¬ 2 = 3 by decide), e15]
      refine clX7_use a b M ?_
      unfold wpX7_use_0
      refine rrT hM hc ⟨_, rfl, t1 ?_⟩
      refine rwT hc2 ⟨_, rfl, t2 ?_⟩
      refine r_of (k := 4) ea rfl (by omega) ⟨_, rfl, ?_⟩
      refine r_within ⟨_, rfl, ?_⟩
      rw [show 59 + 6 * j + 4 = 63 + 6 * j by omega, ← w6]
      refine r_of (k := 4) ea rfl (by omega) ⟨_, rfl, ?_⟩
      refine r_put (k := 4) ea rfl (by omega) ⟨rfl, fun M12 g12 => ⟨rfl, ?_⟩⟩
      have eM : M12 = ma M 25 0 (upd (upd (M 25 0) (63 + 6 * j) (M 25 0 (63 + 6 * j) - z6)) 9 (M 25 0 9 + z6)) := by
        rw [g12]
        simp only [mu_eq, ma_same, ma_ma]
        rw [show 59 + 6 * j + 4 = 63 + 6 * j by omega, up_n (show ¬ 9 = 63 + 6 * j by omega)]
      have hFr : FR 0 X X8 := by rw [eX]; exact (FR.rf.mu3 (by omega)).mu2
      have hRW : RW X8 0 (upd (upd (M 25 0) (63 + 6 * j) (M 25 0 (63 + 6 * j) - z6)) 9 (M 25 0 9 + z6)) m := by
        have := (q1.roof hj (j := 4) (by omega) (M 25 0 (63 + 6 * j) - z6)).set 9 (by omega) (by omega) (M 25 0 9 + z6)
        rw [show 59 + 6 * j + 4 = 63 + 6 * j by omega] at this
        rw [eX]
        exact this
      rw [eM]
      refine GR.fr hN hR hFr hRW ?_ (fun i hi => by rw [up_n (by omega), up_n (by omega)])
      have t4 : (M 25 0 (63 + 6 * j) - z6).toInt = (M 25 0 (63 + 6 * j)).toInt - z6.toInt := ti_sub (by omega) (by omega)
      have t9 : (M 25 0 9 + z6).toInt = (M 25 0 9).toInt + z6.toInt := ti_add (by omega) (by omega)
      refine ⟨fun i hi => ?_, ?_, ?_, ?_, ?_, ?_, ?_⟩
      · by_cases e : i = j
        · subst e
          exact ((p1 i hi).wat (by omega) (by omega)).out (by omega)
        · exact ((p1 i hi).out (by omega)).out (by omega)
      · rw [up_n (by omega), up_n (by omega)]; exact p4
      · rw [up_n (by omega), up_n (by omega)]; exact p5
      · rw [up_n (by omega), up_n (by omega)]; exact p6
      · rw [up_n (by omega), up_n (by omega)]; exact p7
      · rw [up_s]; omega
      · rw [msr_out m (fun i hi => by omega), msr_wat m hj, up_s, up_n (show ¬ 4 = 9 by omega), up_n (show ¬ 5 = 9 by omega), up_n (show ¬ 6 = 9 by omega), up_n (show ¬ 7 = 9 by omega), up_n (show ¬ 4 = 63 + 6 * j by omega), up_n (show ¬ 5 = 63 + 6 * j by omega), up_n (show ¬ 6 = 63 + 6 * j by omega), up_n (show ¬ 7 = 63 + 6 * j by omega)]
        omega
    · refine xwF hc2 ⟨_, rfl, f2 ⟨_, rfl, ?_⟩⟩
      refine clX7_use a b M ?_
      unfold wpX7_use_0
      exact rrT hM hc ⟨_, rfl, t1 (rwF hc2 ⟨_, rfl, f2 ⟨rfl, hG⟩⟩)⟩
  · refine xrF hX hc ⟨_, rfl, f1 ⟨_, rfl, ?_⟩⟩
    refine clX7_use a b M ?_
    unfold wpX7_use_0
    exact rrF hM hc ⟨_, rfl, f1 ⟨rfl, hG⟩⟩
theorem RW.set14 (hR : RW V w n m) (hk : k < 24) (x : Int32) : RW (mu V 14 w k x) w (upd n (11 + k) x) m := by
  refine ⟨by rw [up_n (by omega)]; exact hR.1, hR.2.1, fun i hi => ?_⟩
  by_cases e : i = 11 + k
  · subst e
    unfold vw
    rw [if_neg (by omega), if_pos (by omega), show 11 + k - 11 = k by omega, mu_sk, up_s]
  · rw [up_n e, ← hR.2.2 i hi]
    unfold vw
    split
    · rw [mu_o (by decide)]
    · split
      · rw [mu_sn (by omega)]
      · split
        · rw [mu_o (by decide)]
        · rw [mu_o (by decide)]
theorem RW.set15 (hR : RW V w n m) (hk : k < 24) (x : Int32) : RW (mu V 15 w k x) w (upd n (35 + k) x) m := by
  refine ⟨by rw [up_n (by omega)]; exact hR.1, hR.2.1, fun i hi => ?_⟩
  by_cases e : i = 35 + k
  · subst e
    unfold vw
    rw [if_neg (by omega), if_neg (by omega), if_pos (by omega), show 35 + k - 35 = k by omega, mu_sk, up_s]
  · rw [up_n e, ← hR.2.2 i hi]
    unfold vw
    split
    · rw [mu_o (by decide)]
    · split
      · rw [mu_o (by decide)]
      · split
        · rw [mu_sn (by omega)]
        · rw [mu_o (by decide)]
theorem sky.air (hs : sky n) (hk : k < 24) (h1 : -20 ≤ x.toInt) (h2 : x.toInt ≤ 20) : sky (upd n (11 + k) x) := by
  intro i hi
  rw [up_n (show ¬ 35 + i = 11 + k by omega)]
  refine ⟨?_, (hs i hi).2⟩
  by_cases e : i = k
  · subst e
    rw [up_s]
    exact ⟨h1, h2⟩
  · rw [up_n (by omega)]
    exact (hs i hi).1
theorem sky.fal (hs : sky n) (hk : k < 24) (h1 : 0 ≤ x.toInt) (h2 : x.toInt ≤ 9) : sky (upd n (35 + k) x) := by
  intro i hi
  rw [up_n (show ¬ 11 + i = 35 + k by omega)]
  refine ⟨(hs i hi).1, ?_⟩
  by_cases e : i = k
  · subst e
    rw [up_s]
    exact ⟨h1, h2⟩
  · rw [up_n (by omega)]
    exact (hs i hi).2
theorem mu_now {r0 : Nat} (h0 : nowX r0 0) : ∀ r i, ¬ nowX r i → mu X r0 0 k x r i = X r i := fun r i q => by
  rw [mu_eq, ma_ne (fun z => q (by rw [z.1, z.2]; exact h0))]
theorem op_weather (hG : GR X M) : OP (d + 12) mX6_weather mX7_weather [aI a, aI b, aI c] X M := by
  obtain ⟨m, T, h, hN, hR⟩ := id hG
  obtain ⟨q1, q2, q3, q4, q5, q6, q7⟩ := id hN.1
  refine clX6_weather a b c X ?_
  unfold wpX6_weather_0
  have R0 : ¬ (0 ≤ a ∧ a ≤ 23) ∨ ¬ (0 ≤ b ∧ b ≤ 1) → Cl UM (d + 12) mX7_weather [aR 24 0, aI a, aI b, aI c] M (fun v2 M1 => v2 = some (aI (-1000000001)) ∧ GR X M1) := by
    intro hq
    refine clX7_weather a b c M ?_
    unfold wpX7_weather_0
    by_cases hc : 0 ≤ a ∧ a ≤ 23
    · refine rwT hc ⟨_, rfl, t1 ?_⟩
      exact rwF (hq.resolve_left (fun q => q hc)) ⟨_, rfl, f1 ⟨rfl, hG⟩⟩
    · exact rwF hc ⟨_, rfl, f1 ⟨rfl, hG⟩⟩
  by_cases hc : 0 ≤ a ∧ a ≤ 23
  · obtain ⟨k, hk, ea⟩ := in_nI (N := 23) (by omega) hc
    refine xwT hc ⟨_, rfl, t2 ⟨fun c0 => ?_, fun c1 => ?_, fun c2 => ⟨_, rfl, R0 (Or.inr (fun q => ?_))⟩⟩⟩
    · subst c0
      by_cases hc2 : -20 ≤ c ∧ c ≤ 20
      · have hb := rng_of (l := -20) (u := 20) rfl rfl hc2
        refine xwT hc2 ⟨_, rfl, t1 ?_⟩
        refine clX6_change_14 0 (by omega) a c X ?_
        unfold wpX6_change_14_0
        refine ⟨k, ea, by omega, fun z ez X1 e1 => ⟨_, rfl, z, rfl, ?_⟩⟩
        refine clX7_weather a 0 c M ?_
        unfold wpX7_weather_0 wpX7_weather_30 wpX7_weather_41
        refine rwT hc ⟨_, rfl, t1 ?_⟩
        refine rwT (by decide) ⟨_, rfl, t1 ⟨fun q => absurd rfl q, fun _ => ⟨fun q => absurd rfl q, fun _ => ?_⟩⟩⟩
        refine rwT hc2 ⟨_, rfl, t2 ⟨fun q => absurd rfl q, fun _ => ?_⟩⟩
        refine r_becomes (k := 11 + k) (by rw [ea, show (11 : Int32) = nI 11 from rfl, nI_add]) (by omega) ⟨_, rfl, by rw [ez, q1.air k (by omega)], ?_⟩
        rw [e1]
        exact GR.now hN hR (mu_now (Or.inr (Or.inl ⟨rfl, rfl⟩))) (mu_o (by decide)) (q1.set14 (by omega) c) (q2.out (by omega)) (q3.air (by omega) hb.1 hb.2) (fun i hi => up_n (by omega))
      · refine xwF hc2 ⟨_, rfl, f1 ⟨_, rfl, ?_⟩⟩
        refine clX7_weather a 0 c M ?_
        unfold wpX7_weather_0 wpX7_weather_30 wpX7_weather_41
        refine rwT hc ⟨_, rfl, t1 ?_⟩
        refine rwT (by decide) ⟨_, rfl, t1 ⟨fun q => absurd rfl q, fun _ => ⟨fun q => absurd rfl q, fun _ => ?_⟩⟩⟩
        exact rwF hc2 ⟨_, rfl, f2 ⟨rfl, hG⟩⟩
    · subst c1
      by_cases hc2 : 0 ≤ c ∧ c ≤ 9
      · have hb := rng_of (l := 0) (u := 9) rfl rfl hc2
        refine xwT hc2 ⟨_, rfl, t1 ?_⟩
        refine clX6_change_15 0 (by omega) a c X ?_
        unfold wpX6_change_15_0
        refine ⟨k, ea, by omega, fun z ez X1 e1 => ⟨_, rfl, z, rfl, ?_⟩⟩
        refine clX7_weather a 1 c M ?_
        unfold wpX7_weather_0 wpX7_weather_30 wpX7_weather_41
        refine rwT hc ⟨_, rfl, t1 ?_⟩
        refine rwT (by decide) ⟨_, rfl, t1 ⟨fun _ => ⟨fun _ => ?_, fun q => absurd q (by decide)⟩, fun q => absurd q (by decide)⟩⟩
        refine rwT hc2 ⟨_, rfl, t2 ⟨fun _ => ?_, fun q => absurd q (by decide)⟩⟩
        refine r_becomes (k := 35 + k) (by rw [ea, show (35 : Int32) = nI 35 from rfl, nI_add]) (by omega) ⟨_, rfl, by rw [ez, q1.fal k (by omega)], ?_⟩
        rw [e1]
        exact GR.now hN hR (mu_now (Or.inr (Or.inr (Or.inl ⟨rfl, rfl⟩)))) (mu_o (by decide)) (q1.set15 (by omega) c) (q2.out (by omega)) (q3.fal (by omega) hb.1 hb.2) (fun i hi => up_n (by omega))
      · refine xwF hc2 ⟨_, rfl, f1 ⟨_, rfl, ?_⟩⟩
        refine clX7_weather a 1 c M ?_
        unfold wpX7_weather_0 wpX7_weather_30 wpX7_weather_41
        refine rwT hc ⟨_, rfl, t1 ?_⟩
        refine rwT (by decide) ⟨_, rfl, t1 ⟨fun _ => ⟨fun _ => ?_, fun q => absurd q (by decide)⟩, fun q => absurd q (by decide)⟩⟩
        exact rwF hc2 ⟨_, rfl, f2 ⟨rfl, hG⟩⟩
    · obtain ⟨i, hi, eb⟩ := in_nI (N := 1) (by omega) q
      rcases (show i = 0 ∨ i = 1 by omega) with e | e
      · subst e; exact c2.1 eb
      · subst e; exact c2.2 eb
  · exact xwF hc ⟨_, rfl, f2 ⟨_, rfl, R0 (Or.inl hc)⟩⟩
end OPS4
