/-! ===== texts: the reference's key ===== -/
def katN : Nat → Nat := fun w => match w with | 0 => 0 | 1 => 4 | 2 => 9 | _ => 13
theorem kat_n : ∀ w, w < 4 → kat w = nI (katN w) := by decide
theorem kat_len : ∀ w, w < 3 → katN (w + 1) = katN w + lenS.getD w 0 := by decide
theorem kat_ch : ∀ w, w < 3 → ∀ j, j < lenS.getD w 0 → kch (katN w + j) = chS w j := by decide +kernel
theorem katN_le : ∀ w, w < 4 → katN w ≤ 13 := by decide
section RKEY
variable {d D : Nat} {V W X M X1 M1 : Mem} {P : Option AV → Mem → Prop} {m h T i j k r t u q m1 h1 s p e st en so so0 L st1 en1 so1 pr ao key lst : Nat} {n n1 tp ts : NF} {a b c x y z kk ss c0 sg : Int32} {w : Bool} {stk code ops S : List Int32}
theorem r_takesKey (e6 : V 24 0 6 = nI L) (hL : L ≤ 96) (htp : ∀ j, j < L → V 29 0 j = tp j) (hC : CkR V) (hR : RT V tp st en so) (hso : so ≤ 4) (hse : st ≤ en) (hen : en ≤ L)
    (hT : ∀ k, k < 3 → so = 1 → isKw tp st en k → (∀ j, j < k → ¬ isKw tp st en j) → ∃ st1 en1 so1, Tok tp L en true st1 en1 so1 ∧ ∀ V1, FRm (mu V 24 0 12 (nI k)) V1 → RT V1 tp st1 en1 so1 → P (some (aI 1)) V1) (hF : (¬ so = 1 ∨ ∀ k, k < 3 → ¬ isKw tp st en k) → P (some (aI 0)) V) : Cl UM (d + 4) mX7_takesKey [aR 24 0] V P := by
  have k1 := (tk_of hR hso).2.2.1
  obtain ⟨c1, c2⟩ := hC
  have v31 : ∀ w, w < 4 → V 31 0 w = nI (katN w) := fun w hw => by rw [c2 w hw, kat_n w hw]
  have v78 : V 24 0 7 - V 24 0 8 = nI (en - st) := by rw [hR.1, hR.2.1]; exact pk_sub hse
  have Lp : so = 1 → ∀ f w, w + f = 3 → (∀ j, j < w → ¬ isKw tp st en j) → Gq (Kp (d + 4) mX7_takesKey UM P) UM cX7_takesKey 5 RX7 12 [(0, aR 24 0), (1, aI (nI w))] [] V := by
    intro s1 f
    induction f with
    | zero =>
      intro w hw hn
      have hw : w = 3 := by omega
      subst hw
      refine okX7_takesKey_12 (I12 := fun _ _ => False) (I55 := fun _ _ _ _ _ => False) _ V (fun _ _ q => q.elim) (fun _ _ _ _ _ q => q.elim) ?_
      unfold wpX7_takesKey_12
      exact ⟨fun _ => hF (Or.inr hn), fun c => absurd (by decide) c⟩
    | succ f ih =>
      intro w hw hn
      have hl := lenS_le (i := w)
      have kl := kat_len w (by omega)
      have kle := katN_le (w + 1) (by omega)
      have next : ¬ isKw tp st en w → Gq (Kp (d + 4) mX7_takesKey UM P) UM cX7_takesKey 5 RX7 12 [(0, aR 24 0), (1, aI (nI (w + 1)))] [] V := fun no => ih (w + 1) (by omega) (fun j hj => by
        by_cases ej : j = w
        · rw [ej]; exact no
        · exact hn j (by omega))
      -- the letters
      have L55n : ¬ isKw tp st en w → ∀ (q : Nat), Gq (Kp (d + 4) mX7_takesKey UM P) UM cX7_takesKey 5 RX7 55 [(0, aR 24 0), (1, aI (nI w)), (2, aI (nI (lenS.getD w 0))), (3, aI 0), (4, aI (nI q))] [] V := by
        intro no q
        refine okX7_takesKey_55 (I12 := fun y W => y = nI (w + 1) ∧ W = V) (I55 := fun _ _ _ _ _ => False) _ _ _ _ V (fun y W z => ?_) (fun _ _ _ _ _ q => q.elim) ?_
        · obtain ⟨rfl, hW⟩ := z
          rw [hW]
          exact next no
        · unfold wpX7_takesKey_55 wpX7_takesKey_106
          exact ⟨fun _ => f1 ⟨nI_1 w, rfl⟩, fun _ => f1 (f1 ⟨nI_1 w, rfl⟩)⟩
      have L55 : en - st = lenS.getD w 0 → ∀ f2 q, q + f2 = lenS.getD w 0 → (∀ j, j < q → tp (st + j) = chS w j) → Gq (Kp (d + 4) mX7_takesKey UM P) UM cX7_takesKey 5 RX7 55 [(0, aR 24 0), (1, aI (nI w)), (2, aI (nI (lenS.getD w 0))), (3, aI 1), (4, aI (nI q))] [] V := by
        intro hlen f2
        induction f2 with
        | zero =>
          intro q hq hj
          have hw' : isKw tp st en w := ⟨hlen, fun j hj' => hj j (by omega)⟩
          obtain ⟨st1, en1, so1, hX, hp⟩ := hT w (by omega) s1 hw' hn
          refine okX7_takesKey_55 (I12 := fun _ _ => False) (I55 := fun _ _ _ _ _ => False) _ _ _ _ V (fun _ _ q => q.elim) (fun _ _ _ _ _ q => q.elim) ?_
          unfold wpX7_takesKey_55 wpX7_takesKey_106
          refine ⟨fun _ => t1 (fun V1 a1 => ?_), fun c => absurd (nI_le (by omega) (by omega)) c⟩
          refine r_go (w := true) (L := L) (e := en) (tp := tp) ?_ ?_ hL (fun j hj => ?_) (fun _ => ?_) (fun z => absurd z (by decide)) hX (fun V2 g1 g2 => ⟨rfl, hp V2 (by rw [a1] at g1; exact g1) g2⟩)
          · rw [a1, mu_sn (by omega), e6]
          · rw [a1, mu_sn (by omega), hR.2.1]
          · rw [a1, mu_o (by decide), htp j hj]
          · rw [a1, mu_sn (by omega)]; exact hR.2.2.2.2.2.1 (Or.inl s1)
        | succ f2 ih2 =>
          intro q hq hj
          refine okX7_takesKey_55 (I12 := fun _ _ => False) (I55 := fun y1 y2 y3 y4 W => y1 = nI w ∧ y2 = nI (lenS.getD w 0) ∧ y4 = nI (q + 1) ∧ W = V ∧ ((y3 = 1 ∧ tp (st + q) = chS w q) ∨ (y3 = 0 ∧ ¬ tp (st + q) = chS w q))) _ _ _ _ V (fun _ _ q => q.elim) (fun y1 y2 y3 y4 W z => ?_) ?_
          · obtain ⟨rfl, rfl, rfl, hW, z1⟩ := z
            rw [hW]
            rcases z1 with ⟨rfl, z1⟩ | ⟨rfl, z1⟩
            · refine ih2 (q + 1) (by omega) (fun j hj' => ?_)
              by_cases ej : j = q
              · rw [ej]; exact z1
              · exact hj j (by omega)
            · exact L55n (fun hh => z1 (hh.2 q (by omega))) (q + 1)
          · unfold wpX7_takesKey_55
            have e29 : V 29 0 (st + q) = tp (st + q) := htp _ (by omega)
            have e30 : V 30 0 (katN w + q) = chS w q := by rw [c1 _ (by omega), kat_ch w (by omega) q (by omega)]
            refine ⟨fun c => absurd c (nI_ge (by omega) (by omega)), fun _ => t1 ⟨st + q, by rw [hR.1, nI_add], by omega, w, rfl, by omega, katN w + q, by rw [v31 w (by omega), nI_add], by omega, fun c => ⟨rfl, rfl, nI_1 q, rfl, Or.inr ⟨rfl, ?_⟩⟩, fun c => ⟨rfl, rfl, nI_1 q, rfl, Or.inl ⟨rfl, ?_⟩⟩⟩⟩
            · rw [e29, e30] at c; exact c
            · rw [e29, e30] at c; exact c
      refine okX7_takesKey_12 (I12 := fun _ _ => False) (I55 := fun y1 y2 y3 y4 W => y1 = nI w ∧ y2 = nI (lenS.getD w 0) ∧ y4 = nI 0 ∧ W = V ∧ ((y3 = 1 ∧ en - st = lenS.getD w 0) ∨ (y3 = 0 ∧ ¬ en - st = lenS.getD w 0))) _ V (fun _ _ q => q.elim) (fun y1 y2 y3 y4 W z => ?_) ?_
      · obtain ⟨rfl, rfl, rfl, hW, z1⟩ := z
        rw [hW]
        rcases z1 with ⟨rfl, z1⟩ | ⟨rfl, z1⟩
        · exact L55 z1 (lenS.getD w 0) 0 (by omega) (fun j hj => absurd hj (by omega))
        · exact L55n (fun hh => z1 hh.1) 0
      · unfold wpX7_takesKey_12
        refine ⟨fun c => absurd c (nI_ge (b := 3) (by omega) (by omega)), fun _ => ⟨w + 1, nI_1 w, by omega, w, rfl, by omega, fun z3 e3 => ?_⟩⟩
        rw [v31 (w + 1) (by omega), v31 w (by omega), kl, pk_sub (by omega), Nat.add_sub_cancel_left] at e3
        rw [v78, e3]
        have nn : (nI (lenS.getD w 0) = nI (en - st)) ↔ lenS.getD w 0 = en - st := nI_eq (by omega) (by omega)
        exact ⟨fun c => ⟨rfl, rfl, rfl, rfl, Or.inr ⟨rfl, fun z => c (nn.mpr z.symm)⟩⟩, fun c => ⟨rfl, rfl, rfl, rfl, Or.inl ⟨rfl, (nn.mp c).symm⟩⟩⟩
  refine clX7_takesKey (I12 := fun y W => y = nI 0 ∧ W = V ∧ so = 1) (I55 := fun _ _ _ _ _ => False) V (fun y W z => ?_) (fun _ _ _ _ _ q => q.elim) ?_
  · obtain ⟨rfl, hW, s1⟩ := z
    rw [hW]
    exact Lp s1 3 0 (by omega) (fun j hj => absurd hj (by omega))
  · unfold wpX7_takesKey_0
    exact ⟨fun c => ⟨rfl, rfl, k1.mp c⟩, fun c => hF (Or.inl (fun z => c (k1.mpr z)))⟩
end RKEY
