/-! ===== the calls, side by side: leastRoom, slide ===== -/
def gLst (n : NF) (T h m j : Nat) : Nat → Int32
  | 0 => n (63 + 6 * j)
  | k + 1 => if gLst n T h m j k < (gHours n T h m (k + 1)).1 (63 + 6 * j) then (gHours n T h m (k + 1)).1 (63 + 6 * j) else gLst n T h m j k
section OPS9
variable {d D : Nat} {V W X M X1 M1 : Mem} {P : Option AV → Mem → Prop} {w v m h T i j k r t u q m1 h1 : Nat} {n n1 : NF} {a b c x y z kk ss : Int32} {B B1 : Int}
theorem gHours_law (hI : LawI n T) (hm : m ≤ 8) : LawI (gHours n T h m k).1 T := hI.cong (gHours_o (not_hot (by omega) (by omega)) k) (fun j hj => gHours_o (not_hot (by omega) (by omega)) k)
theorem nle_lt (hq : ¬ x ≤ y) : y < x := by
  rw [ti_lt]
  rw [ti_le] at hq
  omega
theorem le_nlt (hq : x ≤ y) : ¬ y < x := by
  rw [ti_lt]
  rw [ti_le] at hq
  omega
theorem op_leastRoom (hG : GR X M) : OP (d + 12) mX6_leastRoom mX7_leastRoom [aI a, aI b] X M := by
  obtain ⟨m, T, h, hN, hR⟩ := id hG
  obtain ⟨q1, q2, q3, q4, q5, q6, q7⟩ := id hN.1
  have hm := q1.2.1
  have hh := hN.2
  have hX : X 2 0 6 = nI m := q1.many
  have hM : M 25 0 1 = nI m := q1.1
  have S : ∀ (a0 : Int32) (X1 : Mem), wpX7_leastRoom_0 (Cl UM (d + 11)) (fun _ _ _ _ _ => False) a b M (fun v2 M1 => v2 = some (aI a0) ∧ GR X1 M1) → Cl UM (d + 12) mX7_leastRoom [aR 24 0, aI a, aI b] M (fun v2 M1 => v2 = some (aI a0) ∧ GR X1 M1) := fun a0 X1 q => clX7_leastRoom (I44 := fun _ _ _ _ _ => False) a b M (fun _ _ _ _ _ q => q.elim) q
  have S0 : wpX6_leastRoom_0 (Cl UX (d + 11)) (fun _ _ _ _ _ _ => False) a b X (fun v X1 => ∃ a0, v = some (aI a0) ∧ Cl UM (d + 12) mX7_leastRoom [aR 24 0, aI a, aI b] M (fun v2 M1 => v2 = some (aI a0) ∧ GR X1 M1)) → OP (d + 12) mX6_leastRoom mX7_leastRoom [aI a, aI b] X M := fun q => clX6_leastRoom (I58 := fun _ _ _ _ _ _ => False) a b X (fun _ _ _ _ _ _ _ q => q.elim) q
  unfold wpX7_leastRoom_0 at S
  unfold wpX6_leastRoom_0 at S0
  by_cases hc : 0 ≤ a ∧ a ≤ nI m - 1
  · obtain ⟨j, hj, ea⟩ := isRoof_of hm hc
    by_cases hc2 : 0 ≤ b ∧ b ≤ 200
    · clear S S0
      obtain ⟨k, hk, eb⟩ := in_nI (N := 200) (by omega) hc2
      have hr := q2.1 j hj
      unfold rok at hr
      have e99 : (99999 : Int32).toInt = 99999 := rfl
      have hI1 : WI (upd (M 25 0) (62 + 6 * j) 99999) m (738 * (h : Int)) := by
        have := q2.room (x := 99999) (by omega) hj (by omega) (by omega)
        rw [gRain_0 (by rw [up_n (by omega)]; omega) (by rw [up_n (by omega), up_s]; omega)] at this
        exact this
      generalize hg : upd (M 25 0) (62 + 6 * j) 99999 = g at hI1
      have ho : ∀ i, ¬ i = 62 + 6 * j → g i = M 25 0 i := fun i hi => by rw [← hg, up_n hi]
      have hLI : LawI g T := q4.cong (ho 10 (by omega)) (fun i hi => ho i (by omega))
      have g1 : g 1 = nI m := (ho 1 (by omega)).trans q1.1
      have g2 : g 2 = nI h := (ho 2 (by omega)).trans q7
      -- the reference
      have R : ∀ X1, TH X X1 → Cl UM (d + 12) mX7_leastRoom [aR 24 0, aI a, aI b] M (fun v2 M1 => v2 = some (aI (gLst g T h m j k)) ∧ GR X1 M1) := by
        intro X1 hX1
        have L : ∀ q i, i + q = k → ∀ V7, TM M V7 (gHours g T h m i).1 → Gq (Kp (d + 12) mX7_leastRoom UM (fun v2 M1 => v2 = some (aI (gLst g T h m j k)) ∧ GR X1 M1)) UM cX7_leastRoom 6 RX7 44 [(0, aR 24 0), (1, aI a), (2, aI b), (3, aI (gLst g T h m j i)), (4, aI (nI i))] [] V7 := by
          intro q
          induction q with
          | zero =>
            intro i hi V7 hV
            have hi : i = k := by omega
            subst hi
            refine okX7_leastRoom_44 (I44 := fun _ _ _ _ _ => False) a b _ _ V7 (fun _ _ _ _ _ q => q.elim) ?_
            unfold wpX7_leastRoom_44
            refine ⟨fun _ => ?_, fun c => absurd (by rw [eb]; exact nI_le (Nat.le_refl i) (by omega)) c⟩
            exact r_puts hV (fun i hi => by rw [gHours_o (not_hot (by omega) (by omega)), ho i (by omega)]) (fun M1 h1 => ⟨rfl, rfl, TH.gr hN hR hX1 h1⟩)
          | succ q ih =>
            intro i hi V7 hV
            refine okX7_leastRoom_44 (I44 := fun x1 x2 x3 x4 W => x1 = a ∧ x2 = b ∧ x3 = gLst g T h m j (i + 1) ∧ x4 = nI (i + 1) ∧ TM M W (gHours g T h m (i + 1)).1) a b _ _ V7 (fun x1 x2 x3 x4 W z => ?_) ?_
            · obtain ⟨rfl, rfl, rfl, rfl, z1⟩ := z
              exact ih (i + 1) (by omega) W z1
            · unfold wpX7_leastRoom_44
              refine ⟨fun c => absurd c (by rw [eb]; exact nI_ge (by omega) (by omega)), fun _ => ?_⟩
              have h25 := hV.1
              refine r_hour (T := T) (h := h + i) (m := m) (by rw [h25]; exact gHours_law hLI hm) (by rw [h25, gHours_o (not_hot (by omega) (by omega))]; exact g1) hm (by rw [h25]; exact gHours_2 g2 i) (by omega) (fun f s => ⟨_, rfl, ?_⟩)
              rw [h25]
              have hT : TM M (M3 V7 (gHours g T h m (i + 1)).1 f s) (gHours g T h m (i + 1)).1 := hV.m3
              have e4 : ∀ W : Mem, TM M W (gHours g T h m (i + 1)).1 → W 25 0 (59 + 6 * j + 4) = (gHours g T h m (i + 1)).1 (63 + 6 * j) := fun W hW => by rw [hW.1, show 59 + 6 * j + 4 = 63 + 6 * j by omega]
              refine r_of (k := 4) ea rfl (by omega) ⟨_, rfl, fun c => ⟨rfl, rfl, ?_, nI_1 i, hT⟩, fun c => ?_⟩
              · have c : M3 V7 (gHours g T h m (i + 1)).1 f s 25 0 (59 + 6 * j + 4) ≤ gLst g T h m j i := c
                rw [e4 _ hT] at c
                rw [gLst, if_neg (le_nlt c)]
              · have c : ¬ M3 V7 (gHours g T h m (i + 1)).1 f s 25 0 (59 + 6 * j + 4) ≤ gLst g T h m j i := c
                rw [e4 _ hT] at c
                refine r_of (k := 4) ea rfl (by omega) ⟨_, rfl, rfl, rfl, ?_, nI_1 i, hT⟩
                rw [gLst, if_pos (nle_lt c)]
                exact e4 _ hT
        refine clX7_leastRoom (I44 := fun x1 x2 x3 x4 W => x1 = a ∧ x2 = b ∧ x3 = gLst g T h m j 0 ∧ x4 = nI 0 ∧ TM M W (gHours g T h m 0).1) a b M (fun x1 x2 x3 x4 W z => ?_) ?_
        · obtain ⟨rfl, rfl, rfl, rfl, z1⟩ := z
          exact L k 0 (by omega) W z1
        · unfold wpX7_leastRoom_0
          refine rrT hM hc ⟨_, rfl, t1 (rwT hc2 ⟨_, rfl, t2 ?_⟩)⟩
          refine r_thinks (fun V7 hV => ⟨rfl, ?_⟩)
          refine r_put (k := 3) ea rfl (by omega) ⟨rfl, ?_⟩
          have hV2 : TM M (ma V7 25 0 (upd (V7 25 0) (59 + 6 * j + 3) 99999)) g := by
            rw [hV.1, show 59 + 6 * j + 3 = 62 + 6 * j by omega, hg]
            exact hV.put
          refine r_of (k := 4) ea rfl (by omega) ⟨_, rfl, rfl, rfl, ?_, rfl, hV2⟩
          rw [hV2.1, gLst, show 59 + 6 * j + 4 = 63 + 6 * j by omega]
      have L : ∀ q i, i + q = k → ∀ V1, TH X V1 → WS V1 2 (gHours g T h m i).1 m T (h + i) (738 * (h : Int) + 738 * i) → Gq (Kp (d + 12) mX6_leastRoom UX (fun v X1 => ∃ a0, v = some (aI a0) ∧ Cl UM (d + 12) mX7_leastRoom [aR 24 0, aI a, aI b] M (fun v2 M1 => v2 = some (aI a0) ∧ GR X1 M1))) UX cX6_leastRoom 6 RX6 58 [(0, aR 0 0), (1, aI a), (2, aI b), (3, aR 3 (8 * 2 + j)), (4, aI (gLst g T h m j i)), (5, aI (nI i))] [] V1 := by
        intro q
        induction q with
        | zero =>
          intro i hi V1 hV hS
          have hi : i = k := by omega
          subst hi
          refine okX6_leastRoom_58 (I58 := fun _ _ _ _ _ _ => False) a b (8 * 2 + j) _ _ (by omega) V1 (fun _ _ _ _ _ _ _ q => q.elim) ?_
          unfold wpX6_leastRoom_58
          exact ⟨fun _ => ⟨_, rfl, R V1 hV⟩, fun c => absurd (by rw [eb]; exact nI_le (Nat.le_refl i) (by omega)) c⟩
        | succ q ih =>
          intro i hi V1 hV hS
          refine okX6_leastRoom_58 (I58 := fun x1 x2 m3 x4 x5 W => x1 = a ∧ x2 = b ∧ m3 = 8 * 2 + j ∧ x4 = gLst g T h m j (i + 1) ∧ x5 = nI (i + 1) ∧ TH X W ∧ WS W 2 (gHours g T h m (i + 1)).1 m T (h + (i + 1)) (738 * (h : Int) + 738 * ((i + 1 : Nat) : Int))) a b (8 * 2 + j) _ _ (by omega) V1 (fun x1 x2 m3 x4 x5 _ W z => ?_) ?_
          · obtain ⟨rfl, rfl, rfl, rfl, rfl, z1, z2⟩ := z
            exact ih (i + 1) (by omega) W z1 z2
          · unfold wpX6_leastRoom_58
            refine ⟨fun c => absurd c (by rw [eb]; exact nI_ge (by omega) (by omega)), fun _ => ?_⟩
            refine x_passHour (by omega) hS (by omega) (by omega) (fun V2 hS2 hF2 => ⟨_, rfl, fun z ez => ⟨rfl, rfl, rfl, ?_, nI_1 i, hV.tr (TH.fr hF2), ?_⟩⟩)
            · have e4 := hS2.1.rf hj (j := 4) (by omega)
              rw [show 59 + 6 * j + 4 = 63 + 6 * j by omega] at e4
              rw [ez, e4, gLst]
              rfl
            · rw [show 738 * (h : Int) + 738 * ((i + 1 : Nat) : Int) = 738 * (h : Int) + 738 * i + 738 by omega]
              exact hS2
      refine clX6_leastRoom (I58 := fun x1 x2 m3 x4 x5 W => x1 = a ∧ x2 = b ∧ m3 = 8 * 2 + j ∧ x4 = gLst g T h m j 0 ∧ x5 = nI 0 ∧ TH X W ∧ WS W 2 (gHours g T h m 0).1 m T (h + 0) (738 * (h : Int) + 738 * ((0 : Nat) : Int))) a b X (fun x1 x2 m3 x4 x5 _ W z => ?_) ?_
      · obtain ⟨rfl, rfl, rfl, rfl, rfl, z1, z2⟩ := z
        exact L k 0 (by omega) W z1 z2
      · unfold wpX6_leastRoom_0
        refine xrT hX hc ⟨_, rfl, t1 (xwT hc2 ⟨_, rfl, t2 ?_⟩)⟩
        refine x_become (by omega) (by omega) (by omega) hN.1 (fun V1 hS1 hF1 => ⟨rfl, j, ea, by omega, fun V7 e7 z8 e8 => ?_⟩)
        have hRW : RW V7 2 g m := by
          have := hS1.1.roof hj (j := 3) (by omega) 99999
          rw [show 59 + 6 * j + 3 = 62 + 6 * j by omega, ← e7, hg] at this
          exact this
        have hF7 : FR 2 V1 V7 := by rw [e7]; exact FR.rf.mu3 (by omega)
        have hS7 : WS V7 2 g m T h (738 * (h : Int)) := hS1.fr2 hRW hF7 hI1 (fun i hi => ho i (by omega))
        refine ⟨rfl, rfl, rfl, ?_, rfl, (TH.fb hF1).tr (TH.fr hF7), ?_⟩
        · rw [e8, hRW.rf hj (by omega), gLst, show 59 + 6 * j + 4 = 63 + 6 * j by omega]
        · rw [show 738 * (h : Int) + 738 * ((0 : Nat) : Int) = 738 * (h : Int) by omega]
          exact hS7
    · exact S0 (xrT hX hc ⟨_, rfl, t1 (xwF hc2 ⟨_, rfl, f2 ⟨_, rfl, S _ _ (rrT hM hc ⟨_, rfl, t1 (rwF hc2 ⟨_, rfl, f2 ⟨rfl, hG⟩⟩)⟩)⟩⟩)⟩)
  · exact S0 (xrF hX hc ⟨_, rfl, f1 ⟨_, rfl, S _ _ (rrF hM hc ⟨_, rfl, f1 ⟨rfl, hG⟩⟩)⟩⟩)
end OPS9
