/-! ===== the calls, side by side: set, why, textTold, count, kilos, fine ===== -/
section OPS5
variable {d D : Nat} {V W X M X1 M1 : Mem} {P : Option AV → Mem → Prop} {w m h T i j k r t u q m1 h1 : Nat} {n n1 : NF} {a b c x y z kk ss : Int32} {B B1 : Int}
theorem cap0 (hw : 0 ≤ y.toInt) (hw2 : y.toInt ≤ 100000) (hc : 0 ≤ c.toInt) (hc2 : c.toInt ≤ 100000) :
    y + (0 - (if 0 < y + 0 - c then y + 0 - c else 0)) = wi (y + 0) 0 c ∧ (if 0 < y + 0 - c then y + 0 - c else 0) = y + 0 - wi (y + 0) 0 c := by
  have e1 : (y + 0).toInt = y.toInt := by rw [Int32.add_zero]
  have e2 : (y + 0 - c).toInt = y.toInt - c.toInt := by rw [ti_sub (by omega) (by omega), e1]
  have e3 := wi_ti (v := y + 0) (a := 0) (b := c)
  rw [e1, ti0] at e3
  by_cases h : 0 < y + 0 - c
  · have h' := ti_lt.mp h
    rw [e2, ti0] at h'
    rw [if_neg (by omega), if_pos (by omega)] at e3
    rw [if_pos h]
    have e4 : (0 - (y + 0 - c)).toInt = c.toInt - y.toInt := by rw [ti_sub (by rw [ti0]; omega) (by rw [ti0]; omega), e2, ti0]; omega
    refine ⟨ti_eq.mpr ?_, ti_eq.mpr ?_⟩
    · rw [ti_add (by omega) (by omega), e3, e4]; omega
    · rw [e2, ti_sub (by omega) (by omega), e1, e3]
  · have h' : ¬ (0 : Int32).toInt < (y + 0 - c).toInt := fun q => h (ti_lt.mpr q)
    rw [e2, ti0] at h'
    rw [if_neg (by omega), if_neg (by omega)] at e3
    rw [if_neg h]
    refine ⟨ti_eq.mpr ?_, ti_eq.mpr ?_⟩
    · rw [Int32.sub_zero, e1, e3]
    · rw [ti0, ti_sub (by omega) (by omega), e1, e3]; omega
theorem gRain_0 (h1 : 0 ≤ (n (63 + 6 * j)).toInt) (h2 : (n (63 + 6 * j)).toInt ≤ (n (62 + 6 * j)).toInt) : gRain n j 0 = n := by
  have e : wi (n (63 + 6 * j) + 0) 0 (n (62 + 6 * j)) = n (63 + 6 * j) := by
    rw [Int32.add_zero]
    unfold wi
    rw [if_neg (fun q => by rw [ti_lt, ti0] at q; omega), if_neg (fun q => by rw [ti_lt] at q; omega)]
  unfold gRain
  rw [e, up_id, Int32.add_zero, Int32.sub_self, Int32.add_zero, up_id]
theorem WI.size (hI : WI n m B) (hj : j < m) (h1 : 1 ≤ x.toInt) (h2 : x.toInt ≤ 9) : WI (upd n (60 + 6 * j) x) m B := by
  obtain ⟨p1, p4, p5, p6, p7, p9, pm⟩ := hI
  refine ⟨fun i hi => ?_, ?_, ?_, ?_, ?_, ?_, ?_⟩
  · by_cases e : i = j
    · subst e
      have := p1 i hi
      unfold rok at this ⊢
      rw [up_s, up_n (show ¬ 59 + 6 * i = 60 + 6 * i by omega), up_n (show ¬ 61 + 6 * i = 60 + 6 * i by omega), up_n (show ¬ 62 + 6 * i = 60 + 6 * i by omega), up_n (show ¬ 63 + 6 * i = 60 + 6 * i by omega), up_n (show ¬ 64 + 6 * i = 60 + 6 * i by omega)]
      omega
    · exact (p1 i hi).out (by omega)
  · rw [up_n (by omega)]; exact p4
  · rw [up_n (by omega)]; exact p5
  · rw [up_n (by omega)]; exact p6
  · rw [up_n (by omega)]; exact p7
  · rw [up_n (by omega)]; exact p9
  · rw [msr_out m (fun i hi => by omega), up_n (by omega), up_n (by omega), up_n (by omega), up_n (by omega), up_n (by omega)]; exact pm
theorem WI.heat (hI : WI n m B) (hj : j < m) (h1 : 0 ≤ x.toInt) (h2 : x.toInt ≤ 9) : WI (upd n (61 + 6 * j) x) m B := by
  obtain ⟨p1, p4, p5, p6, p7, p9, pm⟩ := hI
  refine ⟨fun i hi => ?_, ?_, ?_, ?_, ?_, ?_, ?_⟩
  · by_cases e : i = j
    · subst e
      have := p1 i hi
      unfold rok at this ⊢
      rw [up_s, up_n (show ¬ 59 + 6 * i = 61 + 6 * i by omega), up_n (show ¬ 60 + 6 * i = 61 + 6 * i by omega), up_n (show ¬ 62 + 6 * i = 61 + 6 * i by omega), up_n (show ¬ 63 + 6 * i = 61 + 6 * i by omega), up_n (show ¬ 64 + 6 * i = 61 + 6 * i by omega)]
      omega
    · exact (p1 i hi).out (by omega)
  · rw [up_n (by omega)]; exact p4
  · rw [up_n (by omega)]; exact p5
  · rw [up_n (by omega)]; exact p6
  · rw [up_n (by omega)]; exact p7
  · rw [up_n (by omega)]; exact p9
  · rw [msr_out m (fun i hi => by omega), up_n (by omega), up_n (by omega), up_n (by omega), up_n (by omega), up_n (by omega)]; exact pm
theorem WI.room (hI : WI n m B) (hB : B ≤ 1000000000) (hj : j < m) (h1 : 0 ≤ x.toInt) (h2 : x.toInt ≤ 99999) : WI (gRain (upd n (62 + 6 * j) x) j 0) m B := by
  obtain ⟨p1, p4, p5, p6, p7, p9, pm⟩ := hI
  have hr := p1 j hj
  have hr' := hr
  unfold rok at hr'
  have hp := msr_pos m p1
  have e3 := wi_ti (v := n (63 + 6 * j) + 0) (a := 0) (b := x)
  unfold gRain
  rw [up_n (show ¬ 63 + 6 * j = 62 + 6 * j by omega), up_s, up_n (show ¬ 7 = 62 + 6 * j by omega)]
  rw [Int32.add_zero] at e3 ⊢
  rw [ti0, if_neg (by omega)] at e3
  generalize wi (n (63 + 6 * j)) 0 x = w1 at e3
  have hw1 : 0 ≤ w1.toInt ∧ w1.toInt ≤ x.toInt ∧ w1.toInt ≤ (n (63 + 6 * j)).toInt := by split at e3 <;> omega
  have e4 : (n (63 + 6 * j) - w1).toInt = (n (63 + 6 * j)).toInt - w1.toInt := ti_sub (by omega) (by omega)
  have e5 : (n 7 + (n (63 + 6 * j) - w1)).toInt = (n 7).toInt + ((n (63 + 6 * j)).toInt - w1.toInt) := by
    rw [ti_add (by omega) (by omega), e4]
  refine ⟨fun i hi => ?_, ?_, ?_, ?_, ?_, ?_, ?_⟩
  · refine rok.out ?_ (by omega)
    by_cases hji : i = j
    · subst hji
      unfold rok
      rw [up_s, up_n (show ¬ 59 + 6 * i = 63 + 6 * i by omega), up_n (show ¬ 60 + 6 * i = 63 + 6 * i by omega), up_n (show ¬ 61 + 6 * i = 63 + 6 * i by omega), up_n (show ¬ 62 + 6 * i = 63 + 6 * i by omega), up_n (show ¬ 64 + 6 * i = 63 + 6 * i by omega), up_s, up_n (show ¬ 59 + 6 * i = 62 + 6 * i by omega), up_n (show ¬ 60 + 6 * i = 62 + 6 * i by omega), up_n (show ¬ 61 + 6 * i = 62 + 6 * i by omega), up_n (show ¬ 64 + 6 * i = 62 + 6 * i by omega)]
      omega
    · exact ((p1 i hi).out (by omega)).out (by omega)
  · rw [up_n (by omega), up_n (by omega), up_n (by omega)]; exact p4
  · rw [up_n (by omega), up_n (by omega), up_n (by omega)]; exact p5
  · rw [up_n (by omega), up_n (by omega), up_n (by omega)]; exact p6
  · rw [up_s, e5]; omega
  · rw [up_n (by omega), up_n (by omega), up_n (by omega)]; exact p9
  · rw [msr_out m (fun i hi => by omega), msr_wat m hj, msr_out m (fun i hi => by omega), up_s, e5, up_n (show ¬ 63 + 6 * j = 62 + 6 * j by omega), up_n (show ¬ 4 = 7 by omega), up_n (show ¬ 4 = 63 + 6 * j by omega), up_n (show ¬ 4 = 62 + 6 * j by omega), up_n (show ¬ 5 = 7 by omega), up_n (show ¬ 5 = 63 + 6 * j by omega), up_n (show ¬ 5 = 62 + 6 * j by omega), up_n (show ¬ 6 = 7 by omega), up_n (show ¬ 6 = 63 + 6 * j by omega), up_n (show ¬ 6 = 62 + 6 * j by omega), up_n (show ¬ 9 = 7 by omega), up_n (show ¬ 9 = 63 + 6 * j by omega), up_n (show ¬ 9 = 62 + 6 * j by omega)]
    omega
theorem op_set (hG : GR X M) : OP (d + 12) mX6_set mX7_set [aI a, aI b, aI c] X M := by
  obtain ⟨m, T, h, hN, hR⟩ := id hG
  have hm := hN.1.1.2.1
  have hh := hN.2
  have hX : X 2 0 6 = nI m := hN.1.1.many
  have hM : M 25 0 1 = nI m := hN.1.1.1
  obtain ⟨q1, q2, q3, q4, q5, q6, q7⟩ := id hN.1
  refine clX6_set a b c X ?_
  unfold wpX6_set_0
  by_cases hc : 0 ≤ a ∧ a ≤ nI m - 1
  · obtain ⟨j, hj, ea⟩ := isRoof_of hm hc
    have hr := q2.1 j hj
    have hr' := hr
    unfold rok at hr'
    -- the reference, when the number is good
    have G : ∀ (k : Nat) (lo hi : Int32), 1 ≤ k → k ≤ 3 → b = nI k → lo = (if k = 1 then 1 else 0) → hi = (if k = 3 then 999 else 9) → lo ≤ c ∧ c ≤ hi → ∀ (a0 : Int32) (X1 : Mem), a0 = M 25 0 (59 + 6 * j + k) → GR X1 (ma M 25 0 (gRain (upd (M 25 0) (59 + 6 * j + k) c) j 0)) →
        Cl UM (d + 12) mX7_set [aR 24 0, aI a, aI b, aI c] M (fun v2 M1 => v2 = some (aI a0) ∧ GR X1 M1) := by
      intro k lo hi k1 k3 eb elo ehi hlo a0 X1 ha hg
      have K : cI (Cl UM (d + 11)) mX7_in [aI c, aI lo, aI hi] M (fun x_2 V_1 => ((¬ x_2 = 0 → (cI (Cl UM (d + 11)) mX7_becomes [aR 24 0, aI ((59 + (6 * a)) + b), aI c] V_1 (fun x_4 V_3 => (cV (Cl UM (d + 11)) mX7_rains [aR 24 0, aI a, aI 0] V_3 (fun V_5 => (fun v2 M1 => v2 = some (aI a0) ∧ GR X1 M1) (some (aI x_4)) V_5))))) ∧ (x_2 = 0 → (fun v2 M1 => v2 = some (aI a0) ∧ GR X1 M1) (some (aI (-1000000001))) V_1))) := by
        refine rwT hlo ⟨_, rfl, t2 ?_⟩
        refine r_becomes (k := 59 + 6 * j + k) ?_ (by omega) ⟨_, rfl, ?_⟩
        · rw [ea, eb]; exact ixr j k
        refine r_rains ea (by omega) ⟨rfl, ?_, ?_⟩
        · rw [ha]
        · rw [ma_same, ma_ma]; exact hg
      refine clX7_set a b c M ?_
      unfold wpX7_set_0 wpX7_set_28 wpX7_set_41
      refine rrT hM hc ⟨_, rfl, t1 ?_⟩
      refine rwT (by rw [eb]; exact ⟨nI_leI (a := 1) (by omega) (by omega) |>.mpr k1, nI_leI (b := 3) (by omega) (by omega) |>.mpr k3⟩) ⟨_, rfl, t1 ⟨fun z1 => ⟨fun z3 => ?_, fun z3 => ?_⟩, fun z1 => ⟨fun z3 => ?_, fun z3 => ?_⟩⟩⟩
      · rw [if_neg (fun e => z1 (by rw [eb, e]; rfl))] at elo
        rw [if_neg (fun e => z3 (by rw [eb, e]; rfl))] at ehi
        rw [elo, ehi] at K; exact K
      · rw [if_neg (fun e => z1 (by rw [eb, e]; rfl))] at elo
        rw [if_pos ((nI_eq (b := 3) (by omega) (by omega)).mp (eb.symm.trans z3))] at ehi
        rw [elo, ehi] at K; exact K
      · rw [if_pos ((nI_eq (b := 1) (by omega) (by omega)).mp (eb.symm.trans z1))] at elo
        rw [if_neg (fun e => z3 (by rw [eb, e]; rfl))] at ehi
        rw [elo, ehi] at K; exact K
      · exact absurd (z1.symm.trans z3) (by decide)
    have H : ∀ (k : Nat) (lo hi : Int32), 1 ≤ k → k ≤ 3 → b = nI k → lo = (if k = 1 then 1 else 0) → hi = (if k = 3 then 999 else 9) → ¬ (lo ≤ c ∧ c ≤ hi) → 
        Cl UM (d + 12) mX7_set [aR 24 0, aI a, aI b, aI c] M (fun v2 M1 => v2 = some (aI (-1000000001)) ∧ GR X M1) := by
      intro k lo hi k1 k3 eb elo ehi hlo
      have K : cI (Cl UM (d + 11)) mX7_in [aI c, aI lo, aI hi] M (fun x_2 V_1 => ((¬ x_2 = 0 → (cI (Cl UM (d + 11)) mX7_becomes [aR 24 0, aI ((59 + (6 * a)) + b), aI c] V_1 (fun x_4 V_3 => (cV (Cl UM (d + 11)) mX7_rains [aR 24 0, aI a, aI 0] V_3 (fun V_5 => (fun v2 M1 => v2 = some (aI (-1000000001)) ∧ GR X M1) (some (aI x_4)) V_5))))) ∧ (x_2 = 0 → (fun v2 M1 => v2 = some (aI (-1000000001)) ∧ GR X M1) (some (aI (-1000000001))) V_1))) :=
        rwF hlo ⟨_, rfl, f2 ⟨rfl, hG⟩⟩
      refine clX7_set a b c M ?_
      unfold wpX7_set_0 wpX7_set_28 wpX7_set_41
      refine rrT hM hc ⟨_, rfl, t1 ?_⟩
      refine rwT (by rw [eb]; exact ⟨nI_leI (a := 1) (by omega) (by omega) |>.mpr k1, nI_leI (b := 3) (by omega) (by omega) |>.mpr k3⟩) ⟨_, rfl, t1 ⟨fun z1 => ⟨fun z3 => ?_, fun z3 => ?_⟩, fun z1 => ⟨fun z3 => ?_, fun z3 => ?_⟩⟩⟩
      · rw [if_neg (fun e => z1 (by rw [eb, e]; rfl))] at elo
        rw [if_neg (fun e => z3 (by rw [eb, e]; rfl))] at ehi
        rw [elo, ehi] at K; exact K
      · rw [if_neg (fun e => z1 (by rw [eb, e]; rfl))] at elo
        rw [if_pos ((nI_eq (b := 3) (by omega) (by omega)).mp (eb.symm.trans z3))] at ehi
        rw [elo, ehi] at K; exact K
      · rw [if_pos ((nI_eq (b := 1) (by omega) (by omega)).mp (eb.symm.trans z1))] at elo
        rw [if_neg (fun e => z3 (by rw [eb, e]; rfl))] at ehi
        rw [elo, ehi] at K; exact K
      · exact absurd (z1.symm.trans z3) (by decide)
    refine xrT hX hc ⟨_, rfl, t2 ⟨fun c1 => ?_, fun c1 => ?_, fun c1 => ?_, fun c1 => ⟨_, rfl, ?_⟩⟩⟩
    · by_cases hc2 : 1 ≤ c ∧ c ≤ 9
      · have hb := rng_of (l := 1) (u := 9) rfl rfl hc2
        refine xwT hc2 ⟨_, rfl, t1 ⟨j, ea, by omega, ?_⟩⟩
        refine clX6_changeSize (8 * 0 + j) (by omega) c X ?_
        unfold wpX6_changeSize_0
        intro z ez X1 e1
        refine ⟨_, rfl, z, rfl, G 1 1 9 (by omega) (by omega) c1 rfl rfl hc2 _ _ (by rw [ez]; exact q1.rf hj (by omega)) ?_⟩
        have e0 : 59 + 6 * j + 1 = 60 + 6 * j := by omega
        have hRW := q1.roof hj (j := 1) (by omega) c
        rw [e0] at hRW ⊢
        rw [gRain_0 (by rw [up_n (by omega)]; omega) (by rw [up_n (by omega), up_n (by omega)]; omega), e1]
        exact GR.fr hN hR (FR.rf.mu3 (by omega)) hRW (q2.size hj hb.1 hb.2) (fun i hi => up_n (by omega))
      · exact xwF hc2 ⟨_, rfl, f1 ⟨_, rfl, H 1 1 9 (by omega) (by omega) c1 rfl rfl hc2⟩⟩
    · by_cases hc2 : 0 ≤ c ∧ c ≤ 9
      · have hb := rng_of (l := 0) (u := 9) rfl rfl hc2
        refine xwT hc2 ⟨_, rfl, t1 ⟨j, ea, by omega, ?_⟩⟩
        refine clX6_changeHeat (8 * 0 + j) (by omega) c X ?_
        unfold wpX6_changeHeat_0
        intro z ez X1 e1
        refine ⟨_, rfl, z, rfl, G 2 0 9 (by omega) (by omega) c1 rfl rfl hc2 _ _ (by rw [ez]; exact q1.rf hj (by omega)) ?_⟩
        have e0 : 59 + 6 * j + 2 = 61 + 6 * j := by omega
        have hRW := q1.roof hj (j := 2) (by omega) c
        rw [e0] at hRW ⊢
        rw [gRain_0 (by rw [up_n (by omega)]; omega) (by rw [up_n (by omega), up_n (by omega)]; omega), e1]
        exact GR.fr hN hR (FR.rf.mu3 (by omega)) hRW (q2.heat hj hb.1 hb.2) (fun i hi => up_n (by omega))
      · exact xwF hc2 ⟨_, rfl, f1 ⟨_, rfl, H 2 0 9 (by omega) (by omega) c1 rfl rfl hc2⟩⟩
    · by_cases hc2 : 0 ≤ c ∧ c ≤ 999
      · have hb := rng_of (l := 0) (u := 999) rfl rfl hc2
        refine xwT hc2 ⟨_, rfl, t1 ⟨j, ea, by omega, ?_⟩⟩
        refine clX6_changeRoom (8 * 0 + j) (by omega) c X ?_
        unfold wpX6_changeRoom_0
        intro z ez X1 e1
        have hRW := q1.roof hj (j := 3) (by omega) c
        have e0 : 59 + 6 * j + 3 = 62 + 6 * j := by omega
        rw [e0, ← e1] at hRW
        have r4 := hRW.rf hj (j := 4) (by omega)
        have r3 := hRW.rf hj (j := 3) (by omega)
        have s7 : X1 2 0 13 = _ := hRW.sc 7 (by omega)
        rw [show 59 + 6 * j + 4 = 63 + 6 * j by omega] at r4
        rw [e0] at r3
        have hk := cap0 (y := upd (M 25 0) (62 + 6 * j) c (63 + 6 * j)) (c := upd (M 25 0) (62 + 6 * j) c (62 + 6 * j)) (by rw [up_n (by omega)]; omega) (by rw [up_n (by omega)]; omega) (by rw [up_s]; omega) (by rw [up_s]; omega)
        refine x_takeW (by omega) ⟨_, rfl, fun X5 e5 => ⟨_, rfl, z, rfl, G 3 0 999 (by omega) (by omega) c1 rfl rfl hc2 _ _ (by rw [ez]; exact q1.rf hj (by omega)) ?_⟩⟩
        rw [r4, r3, s7, hk.1, hk.2] at e5
        have hRW2 := hRW.rained (x := 0) hj
        rw [← e5] at hRW2
        rw [e0]
        refine GR.fr hN hR ?_ hRW2 (q2.room (by omega) hj hb.1 (by omega)) (fun i hi => ?_)
        · rw [e5, e1]
          exact ((FR.rf.mu3 (by omega)).mu3 (by omega)).mu2
        · unfold gRain
          rw [up_n (by omega), up_n (by omega), up_n (by omega)]
      · exact xwF hc2 ⟨_, rfl, f1 ⟨_, rfl, H 3 0 999 (by omega) (by omega) c1 rfl rfl hc2⟩⟩
    · refine clX7_set a b c M ?_
      unfold wpX7_set_0
      refine rrT hM hc ⟨_, rfl, t1 ?_⟩
      refine rwF (fun q => ?_) ⟨_, rfl, f1 ⟨rfl, hG⟩⟩
      have hq := rng_of (l := 1) (u := 3) rfl rfl q
      rcases (show b.toInt = 1 ∨ b.toInt = 2 ∨ b.toInt = 3 by omega) with e | e | e
      · exact c1.1 (ti_eq.mpr e)
      · exact c1.2.1 (ti_eq.mpr e)
      · exact c1.2.2 (ti_eq.mpr e)
  · refine xrF hX hc ⟨_, rfl, f2 ⟨_, rfl, ?_⟩⟩
    refine clX7_set a b c M ?_
    unfold wpX7_set_0
    exact rrF hM hc ⟨_, rfl, f1 ⟨rfl, hG⟩⟩
end OPS5
