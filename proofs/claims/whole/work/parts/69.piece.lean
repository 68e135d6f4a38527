/-! ===== texts: pieces, and all of it ===== -/
section PIECE
variable {d D g : Nat} {V W X M X1 M1 : Mem} {P : Option AV → Mem → Prop} {m h T i j k r t u q m1 h1 s p e st en so so0 L st1 en1 so1 pr ao key lst nb l o n : Nat} {tp ts : NF} {a b c x y z kk ss c0 sg : Int32} {w : Bool} {stk code ops S out ys : List Int32}
theorem topn_head (h : topn S) : lowt S 5 := h
theorem x_piece (hx : Rx M tp L key) (htp : ∀ j, j < L → X 17 0 j = tp j) (ho : o ≤ 8) (hn8 : n ≤ 8) (hP : n < 8 → PcS g X M tp L key (d + 6) o (n + 1)) (hV : o < 8 → LvS g X M tp L key (d + 6) 0 (o + 1) n) : PcS g X M tp L key (d + 7) o n := by
  intro V st en so k S code ao ts P hC hW hn hS hb hT hF
  have hL : L ≤ 96 := hx.2.1
  have hk3 : key < 3 := hx.2.2.2.2
  have hle := hW.le
  have nb3 : nbk key ≤ 3 := by unfold nbk; split <;> omega
  have hst : so = 0 ∨ (st < L ∧ st < en ∧ en ≤ L) := by
    by_cases q : so = 0
    · exact Or.inl q
    · have := hW.lt q
      exact Or.inr ⟨this.1, this.2, hle.2.1⟩
  -- nothing that fits
  have FAIL : ¬ (so = 3 ∧ tp st = 33 ∧ nc (rpl k ++ S) < 8) → ¬ (so = 3 ∧ tp st = 40 ∧ o < 8) → (∀ c0, ¬ isPart tp key st en so c0) → P (some (aI 0)) V := fun n1 n2 n3 =>
    hF V st hC.cf (fun Q hQ => S_want hx hle.2.2 (by omega) hst ho n1 n2 (fun c0 hc0 => absurd hc0 (n3 c0)) (fun _ W hW' => hQ W hW'))
  -- a number or a name
  have PART : ∀ c0, isPart tp key st en so c0 → (∀ p, okc (nbk key) c0 p = some (p + 1)) → ∀ st1 en1 so1, Tok tp L en (wd so) st1 en1 so1 → ∀ V1, CS X L key st1 en1 so1 (code ++ [c0]) (ao + 1) V1 → P (some (aI 1)) V1 := by
    intro c0 hc0 hok st1 en1 so1 hX V1 hC1
    have hso : ¬ so = 0 := by rcases hc0 with q | q <;> omega
    have hlt := hst.resolve_left hso
    have hle1 := hX.le
    refine hT V1 st1 en1 so1 [c0] (ao + 1) ts hC1 hX.tw (by omega) (fun p => ?_) ?_ (fun _ _ => rfl) (fun Q hQ => ?_)
    · rw [vd, hok]; rfl
    · rw [List.length_append, List.length_cons, List.length_nil]; omega
    · refine S_want hx hle.2.2 (by omega) hst ho (fun z => ?_) (fun z => ?_) (fun c1 hc1 => ⟨k, S, st1, en1, so1, rfl, hS, hX, ?_⟩) (fun no => absurd hc0 (no c0))
      · rcases hc0 with q | q <;> omega
      · rcases hc0 with q | q <;> omega
      · have e : c1 = c0 := by
          rcases hc0 with ⟨q1, q2, q3⟩ | ⟨q1, q2, q3, q4⟩
          · rcases hc1 with ⟨r1, r2, r3⟩ | ⟨r1, r2, r3, r4⟩
            · rw [q3, r3]
            · omega
          · rcases hc1 with ⟨r1, r2, r3⟩ | ⟨r1, r2, r3, r4⟩
            · omega
            · rw [q4, r4]
        rw [e]
        rw [List.append_assoc, List.singleton_append] at hQ
        exact hQ
  obtain ⟨c1, c2, c3, c4, c5, c6, c7, c8, c9⟩ := id hC
  have n1 : (nI so = 1) ↔ so = 1 := nI_eq (b := 1) (by omega) (by omega)
  have n2 : (nI so = 2) ↔ so = 2 := nI_eq (b := 2) (by omega) (by omega)
  have hoN : (8 ≤ nI o) ↔ 8 ≤ o := nI_leI (a := 8) (by omega) (by omega)
  have hnN : (8 ≤ nI n) ↔ 8 ≤ n := nI_leI (a := 8) (by omega) (by omega)
  -- a parenthesis
  have Z119 : ¬ so = 2 → ¬ so = 1 → ¬ (so = 3 ∧ tp st = 33 ∧ nc (rpl k ++ S) < 8) → wpX1_readPiece_119 (Cl UX (d + 6)) (nI o) (nI n) V P := by
    intro s2 s1 nn
    have np : ∀ c0, ¬ isPart tp key st en so c0 := fun c0 q => by rcases q with q | q <;> omega
    unfold wpX1_readPiece_119
    refine x_isSignC hC htp hL hW (fun h3 h40 => ⟨_, rfl, t1 ⟨fun q => FAIL nn (fun z => by have := hoN.mp q; omega) np, fun q => ?_⟩⟩) (fun no => ⟨_, rfl, f1 (FAIL nn (fun z => no ⟨z.1, z.2.1⟩) np)⟩)
    have o8 : o < 8 := by
      rcases Nat.lt_or_ge o 8 with z | z
      · exact z
      · exact absurd (hoN.mpr z) q
    have hlt := hst.resolve_left (by omega)
    refine x_goC hC htp hL hW (fun st2 en2 so2 hX V2 hC2 => ⟨rfl, ?_⟩)
    have hle2 := hX.le
    rw [show nI o + 1 = nI (o + 1) from nI_1 o]
    have hopen : ∀ Q, RG g Q M tp st2 en2 so2 1 (o + 1) (-11 :: (rpl k ++ S)) code ao (upd ts (o + 1) 0) → RG g Q M tp st en so 1 o (rpl k ++ S) code ao ts := fun Q hQ => S_open hx h3 h40 o8 hlt hX hQ
    refine hV o8 V2 st2 en2 so2 (-11 :: (rpl k ++ S)) code ao (upd ts (o + 1) 0) _ hC2 hX.tw ?_ (Or.inr ⟨_, _, rfl, Or.inl rfl⟩) (fun _ => up_s _ _ _) ?_ (fun V3 st3 en3 so3 ops3 code3 ys3 ao3 ts3 d1 d2 d3 d4 d5 d6 d7 d8 d9 d10 d11 => ⟨_, rfl, t1 ?_⟩) (fun V3 st3 d1 d2 => ⟨_, rfl, f1 (hF V3 st3 d1 (fun Q hQ => hopen Q (d2 Q hQ)))⟩)
    · rw [nc, if_neg (by decide), Nat.zero_add]; exact hn
    · rw [List.length_cons, List.length_append, rpl_len]; omega
    · rw [List.length_cons, List.length_append, rpl_len] at d7
      have hle3 := d2.le
      refine x_isSignC d1 htp hL d2 (fun h3' h41 => ⟨_, rfl, t2 ?_⟩) (fun no => ⟨_, rfl, f2 (hF V3 st3 d1.cf (fun Q hQ => hopen Q (d11 Q ?_)))⟩)
      · have hlt3 := d2.lt (by omega)
        refine x_goC d1 htp hL d2 (fun st4 en4 so4 hX4 V4 hC4 => ⟨rfl, ?_⟩)
        have hle4 := hX4.le
        refine hT V4 st4 en4 so4 ys3 ao3 ts3 (by rw [← d4]; exact hC4) hX4.tw (by omega) d5 ?_ (fun j hj => ?_) (fun Q hQ => hopen Q (d11 Q ?_))
        · rw [← d4, List.length_append]; omega
        · rw [d9 j (by omega), up_n (by omega)]
        · refine S_close hx h3' h41 (fun c hc => (d6 c hc).1) hS o8 ⟨hlt3.1, hlt3.2, hle3.2.1⟩ hX4 ?_
          rw [d4]
          exact hQ
      · by_cases s0 : so3 = 0
        · exact S_end (by omega) s0 (by omega) (fun q => absurd q (by omega)) (fun q => absurd q (by omega)) (fun _ W hW' => hQ W hW')
        · refine S_failn hle3.2.2 s0 (by omega) (fun q z => no ⟨q, z.1⟩) (fun q => ?_) hQ
          by_cases q5 : sgl (tp st3) < 5
          · obtain ⟨w1, w2⟩ := d10 q q5 (Nat.zero_le _)
            exact Or.inr ⟨by rw [(sg_ok q5).2.1, w1], w2⟩
          · exact Or.inl (sg_no q5)
  refine clX1_readPiece _ _ V ?_
  unfold wpX1_readPiece_0
  rw [c6]
  refine ⟨fun s2 => ?_, fun s2 => ?_⟩
  · have s2 : ¬ so = 2 := fun z => s2 (n2.mpr z)
    refine ⟨fun s1 => ?_, fun s1 => ?_⟩
    · have s1 : ¬ so = 1 := fun z => s1 (n1.mpr z)
      refine x_isSignC hC htp hL hW (fun h3 h33 => ⟨_, rfl, t1 ⟨fun q => Z119 s2 s1 (fun z => ?_), fun q => ?_⟩⟩) (fun no => ⟨_, rfl, f1 (Z119 s2 s1 (fun z => no ⟨z.1, z.2.1⟩))⟩)
      · have := hnN.mp q
        omega
      · have n8 : n < 8 := by
          rcases Nat.lt_or_ge n 8 with z | z
          · exact z
          · exact absurd (hnN.mpr z) q
        have hlt := hst.resolve_left (by omega)
        refine x_goC hC htp hL hW (fun st2 en2 so2 hX V2 hC2 => ⟨rfl, ?_⟩)
        have hle2 := hX.le
        rw [show nI n + 1 = nI (n + 1) from nI_1 n]
        have hnot : ∀ Q, RG g Q M tp st2 en2 so2 1 o (rpl (k + 1) ++ S) code ao ts → RG g Q M tp st en so 1 o (rpl k ++ S) code ao ts := fun Q hQ => S_not hx h3 h33 (by omega) hlt hX (by rw [rpl_s, List.cons_append] at hQ; exact hQ)
        refine hP n8 V2 st2 en2 so2 (k + 1) S code ao ts _ hC2 hX.tw ?_ hS (by omega) (fun V3 st3 en3 so3 ys3 ao3 ts3 d1 d2 d3 d4 d5 d6 d7 => ⟨_, rfl, t1 ?_⟩) (fun V3 st3 d1 d2 => ⟨_, rfl, f1 (hF V3 st3 d1 (fun Q hQ => hnot Q (d2 Q hQ)))⟩)
        · rw [rpl_s, List.cons_append, nc, if_pos rfl, hn]; omega
        · have hle3 := d2.le
          refine x_addC d1 (by omega) (c := -10) (by decide) (fun V4 hC4 => ⟨_, rfl, t1 (hT V4 st3 en3 so3 (ys3 ++ [-10]) ao3 ts3 ?_ d2 (by omega) (fun p => ?_) ?_ d6 (fun Q hQ => hnot Q (d7 Q ?_)))⟩)
          · rw [← List.append_assoc]; exact hC4
          · rw [vd_app, d4]
            show vd (nbk key) [-10] (p + 1) = some (p + 1)
            rw [vd, okc_not (by omega)]
            rfl
          · rw [← List.append_assoc, List.length_append, List.length_cons, List.length_nil]; omega
          · have e : code ++ ys3 ++ rpl (k + 1) = code ++ (ys3 ++ [-10]) ++ rpl k := by
              rw [rpl_s, List.append_assoc, List.append_assoc, List.append_assoc, List.singleton_append]
            rw [e]
            exact hQ
    · have s1 : so = 1 := n1.mp s1
      have hlt := hst.resolve_left (by omega)
      have hs := hW.s1 s1
      refine x_nameRead c4 c5 c2 hk3 (by omega) (by omega) (by omega) (by rw [c1 17 0 (by omega) (by omega), htp st hlt.1]) hs ⟨_, rfl, fun q => ?_, fun q => ?_⟩
      · refine FAIL (fun z => by omega) (fun z => by omega) (fun c0 hc0 => ?_)
        rcases hc0 with z | z
        · omega
        · rw [if_pos z.2.1] at q
          exact z.2.2.1 q
      · have l1 : en - st = 1 := by
          by_cases z : en - st = 1
          · exact z
          · rw [if_neg z] at q
            exact absurd (by decide) q
        rw [if_pos l1] at q ⊢
        obtain ⟨v, v1, v2⟩ := nmx_rng hk3 q
        have hp : isPart tp key st en so (10000 + nmx key (tp st)) := Or.inr ⟨s1, l1, q, rfl⟩
        have e : (10000 : Int32) + nmx key (tp st) = nI (10000 + v) := by rw [v2]; exact nI_add 10000 v
        refine x_addOpC hC htp hL hW (by omega) (c := 10000 + nmx key (tp st)) ?_ (fun st1 en1 so1 hX V1 hC1 => ⟨_, rfl, t1 (PART _ hp (fun p => ?_) st1 en1 so1 hX V1 hC1)⟩)
        · rw [trc_nn ⟨10000 + v, by omega, e⟩]
        · rw [v2]; exact okc_name v1 nb3
  · have s2 : so = 2 := n2.mp s2
    have hlt := hst.resolve_left (by omega)
    rw [c4, c5, pk_sub (by omega)]
    have n4 : (4 < nI (en - st)) ↔ 4 < en - st := nI_ltI (a := 4) (by omega) (by omega)
    refine ⟨fun q => ?_, fun q => ?_⟩
    · have := n4.mp q
      exact FAIL (fun z => by omega) (fun z => by omega) (fun c0 hc0 => by rcases hc0 with z | z <;> omega)
    · have l4 : en - st ≤ 4 := by
        rcases Nat.lt_or_ge 4 (en - st) with z | z
        · exact absurd (n4.mpr z) q
        · exact z
      obtain ⟨v, v1, v2⟩ := numv_rng (u := en - st) (fun j j1 j2 => hW.s2 s2 j j1 (by omega)) (en - st) (Nat.le_refl _) l4
      have v4 : v < 10000 := Nat.lt_of_lt_of_le v1 (Nat.pow_le_pow_right (by decide) l4)
      refine x_numberC hC htp hL hW ⟨_, rfl, ?_⟩
      refine x_addOpC hC htp hL hW (by omega) (c := numv tp st (en - st)) ?_ (fun st1 en1 so1 hX V1 hC1 => ⟨_, rfl, t1 (PART _ (Or.inl ⟨s2, l4, rfl⟩) (fun p => okc_num ⟨v, v4, v2⟩) st1 en1 so1 hX V1 hC1)⟩)
      rw [trc_nn ⟨v, by omega, v2⟩]
/-- the whole reader, by how much may still be opened -/
theorem x_parse (hx : Rx M tp L key) (htp : ∀ j, j < L → X 17 0 j = tp j) : ∀ f o n, 7 * (8 - o) + (8 - n) = f → o ≤ 8 → n ≤ 8 → ∀ d, PcS g X M tp L key (d + f + 7) o n ∧ ∀ l, l ≤ 5 → LvS g X M tp L key (d + f + 7 + (6 - l)) l o n := by
  intro f
  induction f using Nat.strongRecOn with
  | ind f ih =>
    intro o n hf ho hn d
    have hp : PcS g X M tp L key (d + f + 7) o n := by
      refine x_piece (d := d + f) hx htp ho hn (fun n8 => ?_) (fun o8 => ?_)
      · have := (ih (f - 1) (by omega) o (n + 1) (by omega) ho (by omega) d).1
        rw [show d + (f - 1) + 7 = d + f + 6 by omega] at this
        exact this
      · have := (ih (f - 7) (by omega) (o + 1) n (by omega) (by omega) hn d).2 0 (by omega)
        rw [show d + (f - 7) + 7 + (6 - 0) = d + f + 6 by omega] at this
        exact this
    refine ⟨hp, ?_⟩
    have hL : ∀ k l, l + k = 5 → LvS g X M tp L key (d + f + 7 + (6 - l)) l o n := by
      intro k
      induction k with
      | zero =>
        intro l hl
        have hl : l = 5 := by omega
        subst hl
        have := x_level5 (d := d + f + 3) (g := g) (X := X) (M := M) (tp := tp) (L := L) (key := key) (o := o) (n := n) (by rw [show d + f + 3 + 4 = d + f + 7 by omega]; exact hp)
        rw [show d + f + 3 + 5 = d + f + 7 + (6 - 5) by omega] at this
        exact this
      | succ k ihk =>
        intro l hl
        have h1 := ihk (l + 1) (by omega)
        have := x_level (d := d + f + 3 + (5 - l)) hx htp (l := l) (by omega) ho (by rw [show d + f + 3 + (5 - l) + 4 = d + f + 7 + (6 - (l + 1)) by omega]; exact h1)
        rw [show d + f + 3 + (5 - l) + 5 = d + f + 7 + (6 - l) by omega] at this
        exact this
    exact fun l hl => hL (5 - l) l (by omega)
end PIECE
