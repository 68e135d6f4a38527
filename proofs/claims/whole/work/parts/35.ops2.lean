/-! ===== the calls, side by side: roof, told, as, turns, run ===== -/
section OPS2
variable {d D : Nat} {V W X M X1 M1 : Mem} {P : Option AV → Mem → Prop} {w m h T i j k r t u q m1 h1 : Nat} {n n1 : NF} {a b c x y z kk ss : Int32} {B B1 : Int}
theorem RW.comes (hR : RW V w n m) (hm : m < 8) : RW (cBeg V w m kk ss) w (gComes n m kk ss) (m + 1) := by
  refine ⟨gComes_1, by omega, fun k hk => ?_⟩
  by_cases h1 : k = 1
  · subst h1
    rw [gComes_1]
    unfold vw
    rw [if_pos (by omega)]
    show cBeg V w m kk ss 2 w 6 = _
    unfold cBeg
    rw [mu_sk]
  · by_cases h2 : 59 + 6 * m ≤ k
    · have e : k = 59 + 6 * m + (k - (59 + 6 * m)) := by omega
      have hj : k - (59 + 6 * m) < 6 := by omega
      generalize k - (59 + 6 * m) = j at e hj
      subst e
      rw [gComes_at j hj]
      unfold vw
      rw [if_neg (by omega), if_neg (by omega), if_neg (by omega), show (59 + 6 * m + j - 59) / 6 = m by omega, show (59 + 6 * m + j - 59) % 6 = j by omega, cBeg_rf hj]
    · rw [gComes_o h1 (by omega), ← hR.2.2 k (by omega)]
      unfold vw
      split
      · next q =>
        unfold cBeg
        rw [mu_sn (show ¬ fld k = 6 from fun z => h1 (fld_inj k q 1 (by omega) z)), mu_o (by decide), mu_o (by decide), mu_o (by decide), mu_o (by decide), mu_o (by decide), mu_o (by decide)]
      · split
        · rw [cBeg_o (by omega) (by omega)]
        · split
          · rw [cBeg_o (by omega) (by omega)]
          · rw [cBeg_o (by omega) (by omega)]
theorem x_addRoof (hw : w < 3) (e : V 2 w 6 = nI m) (hm : m < 8) (hp : P (some (aI (nI m))) (cBeg V w m a b)) : Cl UX (d + 2) mX5_addRoof [aR 2 w, aI a, aI b] V P := by
  refine clX5_addRoof w hw a b V ?_
  unfold wpX5_addRoof_0
  intro z ez
  refine ⟨m, ez.trans e, hm, ?_⟩
  refine x_begin (by omega) ⟨rfl, fun V4 e4 => ?_⟩
  rw [ez, e, e4, mu_o (by decide), mu_o (by decide), mu_o (by decide), mu_o (by decide), mu_o (by decide), mu_o (by decide), e, nI_1]
  exact hp
theorem WS.comes (hS : WS X 0 n m T h B) (hm : m < 8) (hk : 0 ≤ kk.toInt ∧ kk.toInt ≤ 5) (hs : 1 ≤ ss.toInt ∧ ss.toInt ≤ 9) : WS (cBeg X 0 m kk ss) 0 (gComes n m kk ss) (m + 1) T h B := by
  obtain ⟨q1, q2, q3, q4, q5, q6, q7⟩ := id hS
  exact hS.mod (q1.comes hm) (q2.comes hk hs) (q3.eq (fun j _ _ => gComes_o (by omega) (by omega))) (gComes_o (by omega) (by omega)) (fun j hj => gComes_o (by omega) (by omega)) ((gComes_o (by omega) (by omega)).trans q7) (fr_L (cBeg_fr hm))
theorem rng_of {lo hi : Int32} {l u : Int} (hl : lo.toInt = l) (hu : hi.toInt = u) (h : lo ≤ a ∧ a ≤ hi) : l ≤ a.toInt ∧ a.toInt ≤ u := by
  have h1 := ti_le.mp h.1
  have h2 := ti_le.mp h.2
  omega
theorem op_roof (hG : GR X M) : OP (d + 12) mX6_roof mX7_roof [aI a, aI b] X M := by
  obtain ⟨m, T, h, hN, hR⟩ := id hG
  have hm := hN.1.1.2.1
  have hX : X 2 0 6 = nI m := hN.1.1.many
  have hM : M 25 0 1 = nI m := hN.1.1.1
  refine clX6_roof a b X ?_
  unfold wpX6_roof_0
  by_cases hc : 0 ≤ a ∧ a ≤ 5
  · refine xkT hc ⟨_, rfl, t1 ?_⟩
    by_cases hc2 : 1 ≤ b ∧ b ≤ 9
    · refine xwT hc2 ⟨_, rfl, t2 ?_⟩
      have F : ∀ (a0 : Int32) (X1 : Mem), (m < 8 → a0 = nI m ∧ X1 = cBeg X 0 m a b) → (¬ m < 8 → a0 = -1000000003 ∧ X1 = X) → Cl UM (d + 12) mX7_roof [aR 24 0, aI a, aI b] M (fun v2 M1 => v2 = some (aI a0) ∧ GR X1 M1) := by
        intro a0 X1 g1 g2
        refine clX7_roof a b M ?_
        unfold wpX7_roof_0
        refine rwT hc ⟨_, rfl, t1 ?_⟩
        refine rwT hc2 ⟨_, rfl, t2 ⟨fun c8 => ?_, fun c8 => ?_⟩⟩
        · have hm8 : m < 8 := by
            rcases Nat.lt_or_ge m 8 with q | q
            · exact q
            · exact absurd (show M 25 0 1 = 8 by rw [hM, show m = 8 by omega]; rfl) c8
          obtain ⟨rfl, rfl⟩ := g1 hm8
          refine r_comes hM hm8 ⟨_, rfl, rfl, ?_⟩
          refine ⟨m + 1, T, h, ⟨?_, hN.2⟩, hR.eq (fr_now (cBeg_fr hm8)) (ma_now (Or.inl rfl))⟩
          rw [ma_same]
          exact hN.1.comes hm8 (rng_of rfl rfl hc) (rng_of rfl rfl hc2)
        · have hm8 : ¬ m < 8 := fun q => by
            rw [hM] at c8
            have := (nI_eq (a := m) (b := 8) (by omega) (by omega)).mp c8
            omega
          obtain ⟨rfl, rfl⟩ := g2 hm8
          exact ⟨rfl, hG⟩
      refine ⟨fun c8 => ?_, fun c8 => ?_⟩
      · have hm8 : m < 8 := (nI_ltI (a := m) (b := 8) (by omega) (by omega)).mp (by rw [← hX]; exact c8)
        exact x_addRoof (by omega) hX hm8 ⟨_, rfl, _, rfl, F _ _ (fun _ => ⟨rfl, rfl⟩) (fun q => absurd hm8 q)⟩
      · have hm8 : ¬ m < 8 := fun q => c8 (by rw [hX]; exact nI_lt (b := 8) q (by omega))
        exact ⟨_, rfl, F _ _ (fun q => absurd q hm8) (fun _ => ⟨rfl, rfl⟩)⟩
    · refine xwF hc2 ⟨_, rfl, f2 ⟨_, rfl, ?_⟩⟩
      refine clX7_roof a b M ?_
      unfold wpX7_roof_0
      exact rwT hc ⟨_, rfl, t1 (rwF hc2 ⟨_, rfl, f2 ⟨rfl, hG⟩⟩)⟩
  · refine xkF hc ⟨_, rfl, f1 ⟨_, rfl, ?_⟩⟩
    refine clX7_roof a b M ?_
    unfold wpX7_roof_0
    exact rwF hc ⟨_, rfl, f1 ⟨rfl, hG⟩⟩
theorem GR.scr {s f2 s2 : NF} (hN : NowR X M m T h) (hR : Rst X M T) : GR (ma X 12 0 s) (ma (ma M 36 0 f2) 35 0 s2) := by
  have hF : FR 0 X (ma X 12 0 s) := FR.rf.st
  refine ⟨m, T, h, ⟨?_, hN.2⟩, hR.eq (fr_now hF) (fun r q => ?_)⟩
  · rw [ma_o (show ¬ 25 = 35 by decide), ma_o (show ¬ 25 = 36 by decide)]
    obtain ⟨q1, q2, q3, q4, q5, q6, q7⟩ := hN.1
    exact ⟨q1.stk, q2, q3, q4, q5.fr hF, q6.fr hF, q7⟩
  · unfold nowM at q
    rw [ma_o (by omega), ma_o (by omega)]
theorem GR.scr0 {s : NF} (hN : NowR X M m T h) (hR : Rst X M T) : GR (ma X 12 0 s) M := by
  have := GR.scr (s := s) (f2 := M 36 0) (s2 := M 35 0) hN hR
  rw [ma_eta, ma_eta] at this
  exact this
theorem op_as (hG : GR X M) : OP (d + 12) mX6_as mX7_as [aI a, aI b] X M := by
  obtain ⟨m, T, h, hN, hR⟩ := id hG
  have hm := hN.1.1.2.1
  have hX : X 2 0 6 = nI m := hN.1.1.many
  have hM : M 25 0 1 = nI m := hN.1.1.1
  refine clX6_as a b X ?_
  unfold wpX6_as_0
  by_cases hc : 0 ≤ a ∧ a ≤ nI m - 1
  · obtain ⟨j, hj, ea⟩ := isRoof_of hm hc
    refine xrT hX hc ⟨_, rfl, t1 ?_⟩
    by_cases hc2 : 0 ≤ b ∧ b ≤ 5
    · have e0 := hN.1.1.rf hj (j := 0) (by omega)
      have e1 := hN.1.1.rf hj (j := 1) (by omega)
      have hr := hN.1.2.1.1 j hj
      unfold rok at hr
      have e0' : 59 + 6 * j + 0 = 59 + 6 * j := by omega
      refine xkT hc2 ⟨_, rfl, t2 ⟨j, ea, by omega, ?_⟩⟩
      refine x_isOf (by omega) (by rw [e0, e0']; omega) (rng_of rfl rfl hc2) ⟨_, rfl, ?_⟩
      dsimp only
      rw [e0, e1]
      have F : ∀ a0 : Int32, (undI (M 25 0 (59 + 6 * j + 0)) b = 0 → a0 = -1000000012) → (¬ undI (M 25 0 (59 + 6 * j + 0)) b = 0 → a0 = M 25 0 (59 + 6 * j + 1)) → Cl UM (d + 12) mX7_as [aR 24 0, aI a, aI b] M (fun v2 M1 => v2 = some (aI a0) ∧ GR X M1) := by
        intro a0 g1 g2
        refine clX7_as a b M ?_
        unfold wpX7_as_0
        refine rrT hM hc ⟨_, rfl, t1 ?_⟩
        refine rwT hc2 ⟨_, rfl, t2 ?_⟩
        refine r_of (k := 0) ea rfl (by omega) ⟨_, rfl, ?_⟩
        refine r_under ⟨_, rfl, fun c => ?_, fun c => ?_⟩
        · rw [g1 c]; exact ⟨rfl, hG⟩
        · rw [g2 c]; exact r_of (k := 1) ea rfl (by omega) ⟨_, rfl, rfl, hG⟩
      exact ⟨fun c => ⟨_, rfl, F _ (fun _ => rfl) (fun q => absurd c q)⟩, fun c => ⟨_, rfl, F _ (fun q => absurd q c) (fun _ => rfl)⟩⟩
    · refine xkF hc2 ⟨_, rfl, f2 ⟨_, rfl, ?_⟩⟩
      refine clX7_as a b M ?_
      unfold wpX7_as_0
      exact rrT hM hc ⟨_, rfl, t1 (rwF hc2 ⟨_, rfl, f2 ⟨rfl, hG⟩⟩)⟩
  · refine xrF hX hc ⟨_, rfl, f1 ⟨_, rfl, ?_⟩⟩
    refine clX7_as a b M ?_
    unfold wpX7_as_0
    exact rrF hM hc ⟨_, rfl, f1 ⟨rfl, hG⟩⟩
theorem op_turns (hG : GR X M) : OP (d + 12) mX6_turns mX7_turns [aI a, aI b] X M := by
  obtain ⟨m, T, h, hN, hR⟩ := id hG
  have hm := hN.1.1.2.1
  have hX : X 2 0 6 = nI m := hN.1.1.many
  have hM : M 25 0 1 = nI m := hN.1.1.1
  refine clX6_turns a b X ?_
  unfold wpX6_turns_0
  by_cases hc : 0 ≤ a ∧ a ≤ nI m - 1
  · obtain ⟨j, hj, ea⟩ := isRoof_of hm hc
    refine xrT hX hc ⟨_, rfl, t1 ?_⟩
    by_cases hc2 : 0 ≤ b ∧ b ≤ 5
    · have e0 := hN.1.1.rf hj (j := 0) (by omega)
      have e0' : 59 + 6 * j + 0 = 59 + 6 * j := by omega
      refine xkT hc2 ⟨_, rfl, t2 ⟨j, ea, by omega, fun z ez X1 e1 => ⟨z, rfl, ?_⟩⟩⟩
      refine clX7_turns a b M ?_
      unfold wpX7_turns_0
      refine rrT hM hc ⟨_, rfl, t1 ?_⟩
      refine rwT hc2 ⟨_, rfl, t1 ?_⟩
      refine r_becomes (k := 59 + 6 * j) ?_ (by omega) ⟨_, rfl, by rw [ez, e0, e0'], ?_⟩
      · rw [ea, show (59 : Int32) = nI 59 from rfl, show (6 : Int32) = nI 6 from rfl, pk_mul, nI_add]
      · have hFr : FR 0 X X1 := by rw [e1]; exact FR.rf.mu3 (by omega)
        refine ⟨m, T, h, ⟨?_, hN.2⟩, hR.eq (fr_now hFr) (ma_now (Or.inl rfl))⟩
        rw [ma_same]
        obtain ⟨q1, q2, q3, q4, q5, q6, q7⟩ := id hN.1
        have hRW := q1.roof hj (j := 0) (by omega) b
        rw [e0'] at hRW
        rw [e1]
        rw [e1] at hFr
        refine hN.1.mod hRW ?_ (q3.out (by omega)) (up_n (by omega)) (fun i hi => up_n (by omega)) ((up_n (by omega)).trans q7) (fr_L hFr)
        obtain ⟨p1, p4, p5, p6, p7, p9, pm⟩ := q2
        refine ⟨fun i hi => ?_, ?_, ?_, ?_, ?_, ?_, ?_⟩
        · by_cases e : i = j
          · subst e
            have := p1 i hi
            unfold rok at this ⊢
            rw [up_s, up_n (show ¬ 60 + 6 * i = 59 + 6 * i by omega), up_n (show ¬ 61 + 6 * i = 59 + 6 * i by omega), up_n (show ¬ 62 + 6 * i = 59 + 6 * i by omega), up_n (show ¬ 63 + 6 * i = 59 + 6 * i by omega), up_n (show ¬ 64 + 6 * i = 59 + 6 * i by omega)]
            have := rng_of (l := 0) (u := 5) rfl rfl hc2
            omega
          · exact (p1 i hi).out (by omega)
        · rw [up_n (by omega)]; exact p4
        · rw [up_n (by omega)]; exact p5
        · rw [up_n (by omega)]; exact p6
        · rw [up_n (by omega)]; exact p7
        · rw [up_n (by omega)]; exact p9
        · rw [msr_out m (fun i hi => by omega), up_n (by omega), up_n (by omega), up_n (by omega), up_n (by omega), up_n (by omega)]; exact pm
    · refine xkF hc2 ⟨_, rfl, f2 ⟨_, rfl, ?_⟩⟩
      refine clX7_turns a b M ?_
      unfold wpX7_turns_0
      exact rrT hM hc ⟨_, rfl, t1 (rwF hc2 ⟨_, rfl, f1 ⟨rfl, hG⟩⟩)⟩
  · refine xrF hX hc ⟨_, rfl, f1 ⟨_, rfl, ?_⟩⟩
    refine clX7_turns a b M ?_
    unfold wpX7_turns_0
    exact rrF hM hc ⟨_, rfl, f1 ⟨rfl, hG⟩⟩
theorem op_run (hG : GR X M) : OP (d + 12) mX6_run mX7_run [aI a] X M := by
  obtain ⟨m, T, h, hN, hR⟩ := id hG
  have hm := hN.1.1.2.1
  have hh := hN.2
  have h2 : M 25 0 2 = nI h := hN.1.2.2.2.2.2.2
  have hX2 : X 2 0 8 = nI h := (hN.1.1.sc 2 (by omega)).trans h2
  refine clX6_run a X ?_
  unfold wpX6_run_0
  by_cases hc : 1 ≤ a ∧ a ≤ 200
  · obtain ⟨k, hk, ea⟩ := in_nI (N := 200) (by omega) ⟨by have := ti_le.mp hc.1; rw [show (1 : Int32).toInt = 1 from rfl] at this; rw [ti_le, ti0]; omega, hc.2⟩
    have e9 : (9999 : Int32) - nI h = nI (9999 - h) := pk_sub (a := 9999) hh
    refine xwT hc ⟨_, rfl, t2 ?_⟩
    refine clX5_hoursLeft 0 (by omega) X ?_
    unfold wpX5_hoursLeft_0
    refine ⟨_, rfl, fun z ez => ?_⟩
    rw [hX2, e9, ea] at ez
    have ez : z = nI (min (9999 - h) k) := by
      rw [ez]
      by_cases q : 9999 - h < k
      · rw [if_pos (nI_lt q (by omega)), Nat.min_eq_left (by omega)]
      · rw [if_neg (nI_nlt (by omega) (by omega)), Nat.min_eq_right (by omega)]
    refine x_passHours (k := min (9999 - h) k) (by omega) hN.1 (by omega) (by omega) (by omega) ez (fun X1 hS hF => ⟨_, rfl, _, rfl, ?_⟩)
    refine clX7_run a M ?_
    unfold wpX7_run_0
    refine rwT hc ⟨_, rfl, t1 ?_⟩
    refine r_within ⟨_, rfl, ?_⟩
    refine r_hours (k := min (9999 - h) k) hN.1.2.2.2.1 hN.1.1.1 hm h2 (by omega) ?_ (fun f s => ⟨_, rfl, rfl, ?_⟩)
    · rw [h2, e9, ea]
      unfold wi
      rw [if_neg (nI_pos (by omega))]
      by_cases q : k < 9999 - h
      · rw [if_pos (nI_lt q (by omega)), Nat.min_eq_right (by omega)]
      · rw [if_neg (nI_nlt (by omega) (by omega)), Nat.min_eq_left (by omega)]
    · refine ⟨m, T, h + min (9999 - h) k, ⟨?_, by omega⟩, hR.eq (fr_now hF) M3_now⟩
      rw [M3_n]
      have e : 738 * ((h + min (9999 - h) k : Nat) : Int) = 738 * (h : Int) + 738 * ((min (9999 - h) k : Nat) : Int) := by omega
      rw [e]
      exact hS
  · refine xwF hc ⟨_, rfl, f2 ⟨_, rfl, ?_⟩⟩
    refine clX7_run a M ?_
    unfold wpX7_run_0
    exact rwF hc ⟨_, rfl, f1 ⟨rfl, hG⟩⟩
end OPS2
