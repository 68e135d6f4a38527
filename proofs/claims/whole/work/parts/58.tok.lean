/-! ===== texts: what stands at a place of the tape; the class's scanner ===== -/
def srt (b : Int32) : Nat := if 97 ≤ b ∧ b ≤ 122 then 1 else if 48 ≤ b ∧ b ≤ 57 then 2 else 3
/-- behind the place e (w: a word ends there) the next word or sign is of the places st .. en - 1, of the sort so -/
def Tok (tp : NF) (L e : Nat) (w : Bool) (st en so : Nat) : Prop := e ≤ st ∧ st ≤ L ∧ (∀ j, e ≤ j → j < st → tp j = 32) ∧
  ((st = L ∧ en = st ∧ so = 0) ∨ (st < L ∧ ¬ tp st = 32 ∧ en ≤ L ∧ ((srt (tp st) = 3 ∧ en = st + 1 ∧ so = 3) ∨ (∃ q, (q = 1 ∨ q = 2) ∧ st < en ∧ (∀ j, st ≤ j → j < en → srt (tp j) = q) ∧ (en = L ∨ ¬ srt (tp en) = q) ∧ so = if w = true ∧ st = e then 4 else q))))
def tkf (f : NF) (st en so : Nat) : NF := upd (upd (upd f 5 (nI st)) 6 (nI en)) 7 (nI so)
def wd (so : Nat) : Bool := so == 1 || so == 2
def numv (tp : NF) (st : Nat) : Nat → Int32
  | 0 => 0
  | k + 1 => 10 * numv tp st k + tp (st + k) - 48
section TOK
variable {d D : Nat} {V W X M X1 M1 : Mem} {P : Option AV → Mem → Prop} {m h T i j k r t u q m1 h1 s p e st en so so0 L : Nat} {n n1 tp : NF} {a b c x y z kk ss : Int32} {w : Bool}
theorem Tok.le (h : Tok tp L e w st en so) : e ≤ st ∧ st ≤ en ∧ en ≤ L ∧ so ≤ 4 := by
  obtain ⟨h1, h2, h3, h4⟩ := h
  rcases h4 with ⟨q1, q2, q3⟩ | ⟨q1, q2, q3, q4⟩
  · omega
  · rcases q4 with ⟨r1, r2, r3⟩ | ⟨q, r1, r2, r3, r4, r5⟩
    · omega
    · refine ⟨h1, by omega, q3, ?_⟩
      rw [r5]
      split <;> omega
theorem Tok.lt (h : Tok tp L e w st en so) (h0 : ¬ so = 0) : st < L ∧ st < en := by
  obtain ⟨h1, h2, h3, h4⟩ := h
  rcases h4 with ⟨q1, q2, q3⟩ | ⟨q1, q2, q3, q4⟩
  · exact absurd q3 h0
  · rcases q4 with ⟨r1, r2, r3⟩ | ⟨q, r1, r2, r3, r4, r5⟩
    · omega
    · omega
theorem x_sortOf (hp : P (some (aI (nI (srt a)))) V) : Cl UX (d + 1) mX1_sortOf [aI a] V P := by
  refine clX1_sortOf a V ?_
  unfold wpX1_sortOf_0 wpX1_sortOf_14
  unfold srt at hp
  have le_n : ∀ {x y : Int32}, ¬ x < y → y ≤ x := fun {x y} h => by rw [ti_le]; rw [ti_lt] at h; omega
  have n_le : ∀ {x y : Int32}, x < y → ¬ y ≤ x := fun {x y} h => by rw [ti_le]; rw [ti_lt] at h; omega
  refine ⟨fun c1 => ?_, fun c1 => ⟨fun c2 => ?_, fun c2 => ?_⟩⟩
  · rw [if_neg (fun q => n_le c1 q.1)] at hp
    refine ⟨fun c3 => ?_, fun c3 => ⟨fun c4 => ?_, fun c4 => ?_⟩⟩
    · rw [if_neg (fun q => n_le c3 q.1)] at hp; exact hp
    · rw [if_neg (fun q => n_le c4 q.2)] at hp; exact hp
    · rw [if_pos ⟨le_n c3, le_n c4⟩] at hp; exact hp
  · rw [if_neg (fun q => n_le c2 q.2)] at hp
    refine ⟨fun c3 => ?_, fun c3 => ⟨fun c4 => ?_, fun c4 => ?_⟩⟩
    · rw [if_neg (fun q => n_le c3 q.1)] at hp; exact hp
    · rw [if_neg (fun q => n_le c4 q.2)] at hp; exact hp
    · rw [if_pos ⟨le_n c3, le_n c4⟩] at hp; exact hp
  · rw [if_pos ⟨le_n c1, le_n c2⟩] at hp; exact hp
theorem srt_le : srt a = 1 ∨ srt a = 2 ∨ srt a = 3 := by
  unfold srt
  split
  · exact Or.inl rfl
  · split
    · exact Or.inr (Or.inl rfl)
    · exact Or.inr (Or.inr rfl)
/-- the class's scanner -/
theorem x_goOn (e6 : V 6 0 6 = nI e) (e7 : V 6 0 7 = nI so0) (hso : so0 ≤ 4) (ew : w = wd so0) (e8 : V 6 0 8 = nI L) (hL : L ≤ 96) (he : e ≤ L) (htp : ∀ j, j < L → V 17 0 j = tp j)
    (hp : ∀ st en so, Tok tp L e w st en so → P none (ma V 6 0 (tkf (V 6 0) st en so))) : Cl UX (d + 2) mX1_goOn [aR 6 0] V P := by
  -- a word or sign goes on
  have F : ∀ (at0 s0 : Nat) (x1 x3 x4 : Int32) (Va : Mem), Va = mu (mu V 6 0 5 (nI s0)) 6 0 6 (nI s0) → x1 = (if w = true then 1 else 0) → (x3 = 0 ↔ s0 = e) → (x3 = 0 ∨ x3 = 1) → ∀ qq : Nat, (qq = 1 ∨ qq = 2 ∨ qq = 3) → x4 = nI qq → (Tok tp L e w s0 at0 (if qq = 3 then 3 else if w = true ∧ s0 = e then 4 else qq)) → ∀ I27 I104, wpX1_goOn_138 (Cl UX (d + 1)) I27 I104 x1 (nI at0) x3 x4 Va P := by
    intro at0 s0 x1 x3 x4 Va eVa ex1 ex3 b3 qq hq ex4 hT I27 I104
    unfold wpX1_goOn_138
    have K : ∀ (v : Nat) (Vb Vc : Mem), Vb = mu Va 6 0 6 (nI at0) → Vc = mu Vb 6 0 7 (nI v) → v = (if qq = 3 then 3 else if w = true ∧ s0 = e then 4 else qq) → P none Vc := by
      intro v Vb Vc eb ec ev
      have : Vc = ma V 6 0 (tkf (V 6 0) s0 at0 v) := by
        rw [ec, eb, eVa]
        simp only [mu_eq, ma_same, ma_ma]
        unfold tkf
        rw [up_up]
      rw [this, ev]
      exact hp _ _ _ hT
    intro Vb eb
    have n3 : (nI qq = 3) ↔ qq = 3 := nI_eq (b := 3) (by omega) (by omega)
    rw [ex4, ex1]
    refine ⟨fun c1 Vc ec => K qq Vb Vc eb ec ?_, fun c1 => ⟨fun c2 Vc ec => K qq Vb Vc eb ec ?_, fun c2 => ⟨fun c3 Vc ec => K qq Vb Vc eb ec ?_, fun c3 Vc ec => K 4 Vb Vc eb ec ?_⟩⟩⟩
    · have := n3.mp c1
      rw [if_pos this, this]
    · have h3 : ¬ qq = 3 := fun z => c1 (n3.mpr z)
      rw [if_neg h3, if_neg (fun z => ?_)]
      rw [if_pos z.1] at c2
      exact absurd c2 (by decide)
    · have h3 : ¬ qq = 3 := fun z => c1 (n3.mpr z)
      rw [if_neg h3, if_neg (fun z => c3 (ex3.mpr z.2))]
    · have h3 : ¬ qq = 3 := fun z => c1 (n3.mpr z)
      have hw : w = true := by
        cases w with
        | true => rfl
        | false => exact absurd (if_neg (by decide)) c2
      rw [if_neg h3, if_pos ⟨hw, ex3.mp c3⟩]
  have L2 : ∀ fuel at0, at0 + fuel = L → ∀ (s0 : Nat) (x1 x3 x4 : Int32) (Va : Mem), Va = mu (mu V 6 0 5 (nI s0)) 6 0 6 (nI s0) → x1 = (if w = true then 1 else 0) → (x3 = 0 ↔ s0 = e) → (x3 = 0 ∨ x3 = 1) → ∀ qq : Nat, (qq = 1 ∨ qq = 2 ∨ qq = 3) → x4 = nI qq → e ≤ s0 → s0 < at0 → (qq = 3 → at0 = s0 + 1) → (∀ j, e ≤ j → j < s0 → tp j = 32) → ¬ tp s0 = 32 → (∀ j, s0 ≤ j → j < at0 → srt (tp j) = qq) → Gq (Kp (d + 2) mX1_goOn UX P) UX cX1_goOn 5 RX1 104 [(0, aR 6 0), (1, aI x1), (2, aI (nI at0)), (3, aI x3), (4, aI x4)] [] Va := by
    intro fuel
    induction fuel with
    | zero =>
      intro at0 hat s0 x1 x3 x4 Va eVa ex1 ex3 b3 qq hq ex4 h1 h2 h3 h4 h5 h6
      have hat : at0 = L := by omega
      subst hat
      refine okX1_goOn_104 (I27 := fun _ _ _ => False) (I104 := fun _ _ _ _ _ => False) x1 _ x3 x4 Va (fun _ _ _ q => q.elim) (fun _ _ _ _ _ q => q.elim) ?_
      unfold wpX1_goOn_104
      have hT : Tok tp at0 e w s0 at0 (if qq = 3 then 3 else if w = true ∧ s0 = e then 4 else qq) := by
        refine ⟨h1, by omega, h4, Or.inr ⟨by omega, h5, Nat.le_refl _, ?_⟩⟩
        by_cases h3' : qq = 3
        · exact Or.inl ⟨(h6 s0 (Nat.le_refl _) h2).trans h3', h3 h3', if_pos h3'⟩
        · exact Or.inr ⟨qq, by omega, h2, h6, Or.inl rfl, if_neg h3'⟩
      have e8' : Va 6 0 8 = nI at0 := by rw [eVa, mu_sn (by omega), mu_sn (by omega), e8]
      refine ⟨fun _ => F at0 s0 x1 x3 x4 Va eVa ex1 ex3 b3 qq hq ex4 hT _ _, fun _ => ⟨fun _ => F at0 s0 x1 x3 x4 Va eVa ex1 ex3 b3 qq hq ex4 hT _ _, fun c => absurd ?_ c⟩⟩
      rw [e8']
      exact nI_le (Nat.le_refl _) (by omega)
    | succ fuel ih =>
      intro at0 hat s0 x1 x3 x4 Va eVa ex1 ex3 b3 qq hq ex4 h1 h2 h3 h4 h5 h6
      refine okX1_goOn_104 (I27 := fun _ _ _ => False) (I104 := fun y1 y2 y3 y4 W => y1 = x1 ∧ y2 = nI (at0 + 1) ∧ y3 = x3 ∧ y4 = x4 ∧ W = Va ∧ ¬ qq = 3 ∧ srt (tp at0) = qq) x1 _ x3 x4 Va (fun _ _ _ q => q.elim) (fun y1 y2 y3 y4 W z => ?_) ?_
      · obtain ⟨rfl, rfl, rfl, rfl, hW, n3, hs⟩ := z
        rw [hW]
        refine ih (at0 + 1) (by omega) s0 y1 y3 y4 Va eVa ex1 ex3 b3 qq hq ex4 h1 (by omega) (fun z => absurd z n3) h4 h5 (fun j j1 j2 => ?_)
        by_cases ej : j = at0
        · rw [ej]; exact hs
        · exact h6 j j1 (by omega)
      · unfold wpX1_goOn_104
        have e8' : Va 6 0 8 = nI L := by rw [eVa, mu_sn (by omega), mu_sn (by omega), e8]
        have n3 : (x4 = 3) ↔ qq = 3 := by rw [ex4]; exact nI_eq (b := 3) (by omega) (by omega)
        have hT : (qq = 3 ∨ ¬ srt (tp at0) = qq) → Tok tp L e w s0 at0 (if qq = 3 then 3 else if w = true ∧ s0 = e then 4 else qq) := by
          intro hh
          refine ⟨h1, by omega, h4, Or.inr ⟨by omega, h5, by omega, ?_⟩⟩
          by_cases h3' : qq = 3
          · exact Or.inl ⟨(h6 s0 (Nat.le_refl _) h2).trans h3', h3 h3', if_pos h3'⟩
          · exact Or.inr ⟨qq, by omega, h2, h6, Or.inr (hh.resolve_left h3'), if_neg h3'⟩
        refine ⟨fun c => F at0 s0 x1 x3 x4 Va eVa ex1 ex3 b3 qq hq ex4 (hT (Or.inl (n3.mp c))) _ _, fun c => ⟨fun c2 => ?_, fun _ => ⟨at0, rfl, by omega, x_sortOf ⟨_, rfl, fun c3 => ?_, fun c3 => ?_⟩⟩⟩⟩
        · rw [e8'] at c2
          exact absurd c2 (nI_ge (by omega) (by omega))
        · have e17 : Va 17 0 at0 = tp at0 := by rw [eVa, mu_o (by decide), mu_o (by decide), htp at0 (by omega)]
          rw [e17, ex4] at c3
          exact F at0 s0 x1 x3 x4 Va eVa ex1 ex3 b3 qq hq ex4 (hT (Or.inr (fun z => c3 (by rw [z])))) _ _
        · have e17 : Va 17 0 at0 = tp at0 := by rw [eVa, mu_o (by decide), mu_o (by decide), htp at0 (by omega)]
          rw [e17, ex4] at c3
          refine ⟨rfl, nI_1 at0, rfl, rfl, rfl, fun z => c (n3.mpr z), (nI_eq ?_ (by omega)).mp c3⟩
          have := srt_le (a := tp at0)
          omega
  have L1 : ∀ fuel at0, at0 + fuel = L → e ≤ at0 → (∀ j, e ≤ j → j < at0 → tp j = 32) → ∀ x1 : Int32, x1 = (if w = true then 1 else 0) → Gq (Kp (d + 2) mX1_goOn UX P) UX cX1_goOn 5 RX1 27 [(0, aR 6 0), (1, aI x1), (2, aI (nI at0))] [] V := by
    intro fuel
    induction fuel with
    | zero =>
      intro at0 hat hea hbl x1 ex1
      have hat : at0 = L := by omega
      subst hat
      refine okX1_goOn_27 (I27 := fun _ _ _ => False) (I104 := fun _ _ _ _ _ => False) x1 _ V (fun _ _ _ q => q.elim) (fun _ _ _ _ _ q => q.elim) ?_
      unfold wpX1_goOn_27
      refine ⟨fun _ => ?_, fun c => absurd (by rw [e8]; exact nI_le (Nat.le_refl _) (by omega)) c⟩
      have Z : ∀ s0, wpX1_goOn_65 (Cl UX (d + 1)) (fun _ _ _ => False) (fun _ _ _ _ _ => False) x1 (nI at0) s0 V P := by
        intro s0
        unfold wpX1_goOn_65
        intro V1 e1 V2 e2
        have e8' : V2 6 0 8 = nI at0 := by rw [e2, mu_sn (by omega), e1, mu_sn (by omega), e8]
        rw [e8']
        refine ⟨fun c => absurd c (nI_nlt (Nat.le_refl _) (by omega)), fun _ V6 e6' => ?_⟩
        have : V6 = ma V 6 0 (tkf (V 6 0) at0 at0 0) := by
          rw [e6', e2, e1]
          simp only [mu_eq, ma_same, ma_ma]
          rfl
        rw [this]
        exact hp at0 at0 0 ⟨hea, Nat.le_refl _, hbl, Or.inl ⟨rfl, rfl, rfl⟩⟩
      unfold wpX1_goOn_52
      exact ⟨fun _ => Z 0, fun _ => Z 1⟩
    | succ fuel ih =>
      intro at0 hat hea hbl x1 ex1
      refine okX1_goOn_27 (I27 := fun y1 y2 W => y1 = x1 ∧ y2 = nI (at0 + 1) ∧ W = V ∧ tp at0 = 32) (I104 := fun y1 y2 y3 y4 W => y1 = x1 ∧ y2 = nI (at0 + 1) ∧ (y3 = 0 ↔ at0 = e) ∧ (y3 = 0 ∨ y3 = 1) ∧ y4 = nI (srt (tp at0)) ∧ W = mu (mu V 6 0 5 (nI at0)) 6 0 6 (nI at0) ∧ ¬ tp at0 = 32) x1 _ V (fun y1 y2 W z => ?_) (fun y1 y2 y3 y4 W z => ?_) ?_
      · obtain ⟨rfl, rfl, hW, hb⟩ := z
        rw [hW]
        refine ih (at0 + 1) (by omega) (by omega) (fun j j1 j2 => ?_) y1 ex1
        by_cases ej : j = at0
        · rw [ej]; exact hb
        · exact hbl j j1 (by omega)
      · obtain ⟨rfl, rfl, h3, h3', rfl, hW, hb⟩ := z
        refine L2 fuel (at0 + 1) (by omega) at0 y1 y3 _ W hW ex1 h3 h3' _ srt_le rfl hea (by omega) (fun _ => rfl) hbl hb (fun j j1 j2 => ?_)
        rw [show j = at0 by omega]
      · unfold wpX1_goOn_27
        refine ⟨fun c => absurd (by rw [e8] at c; exact c) (nI_ge (by omega) (by omega)), fun _ => ⟨at0, rfl, by omega, fun c => ?_, fun c => ⟨rfl, nI_1 at0, rfl, by rw [← htp at0 (by omega)]; exact c⟩⟩⟩
        have hb : ¬ tp at0 = 32 := fun z => c (by rw [htp at0 (by omega)]; exact z)
        have Z : ∀ s0, (s0 = 0 ↔ at0 = e) → (s0 = 0 ∨ s0 = 1) → wpX1_goOn_65 (Cl UX (d + 1)) (fun y1 y2 W => y1 = x1 ∧ y2 = nI (at0 + 1) ∧ W = V ∧ tp at0 = 32) (fun y1 y2 y3 y4 W => y1 = x1 ∧ y2 = nI (at0 + 1) ∧ (y3 = 0 ↔ at0 = e) ∧ (y3 = 0 ∨ y3 = 1) ∧ y4 = nI (srt (tp at0)) ∧ W = mu (mu V 6 0 5 (nI at0)) 6 0 6 (nI at0) ∧ ¬ tp at0 = 32) x1 (nI at0) s0 V P := by
          intro s0 hs0 hs1
          unfold wpX1_goOn_65
          intro V1 e1 V2 e2
          have e8' : V2 6 0 8 = nI L := by rw [e2, mu_sn (by omega), e1, mu_sn (by omega), e8]
          have e17 : V2 17 0 at0 = tp at0 := by rw [e2, mu_o (by decide), e1, mu_o (by decide), htp at0 (by omega)]
          rw [e8']
          refine ⟨fun _ => ⟨at0, rfl, by omega, ?_⟩, fun c => absurd (nI_lt (by omega) (by omega)) c⟩
          refine x_sortOf ⟨_, rfl, rfl, nI_1 at0, hs0, hs1, ?_, ?_, hb⟩
          · rw [e17]
          · rw [e2, e1]
        unfold wpX1_goOn_52
        rw [e6]
        refine ⟨fun c => Z 0 ⟨fun _ => ?_, fun _ => rfl⟩ (Or.inl rfl), fun c => Z 1 ⟨fun z => absurd z (by decide), fun z => absurd ?_ c⟩ (Or.inr rfl)⟩
        · have := (nI_leI (by omega) (by omega)).mp c
          omega
        · rw [z]; exact nI_le (Nat.le_refl _) (by omega)
  refine clX1_goOn (I27 := fun y1 y2 W => y1 = (if w = true then 1 else 0) ∧ y2 = nI e ∧ W = V) (I104 := fun _ _ _ _ _ => False) V (fun y1 y2 W z => ?_) (fun _ _ _ _ _ q => q.elim) ?_
  · obtain ⟨rfl, rfl, hW⟩ := z
    rw [hW]
    exact L1 (L - e) e (by omega) (Nat.le_refl _) (fun j j1 j2 => absurd j2 (by omega)) _ rfl
  · unfold wpX1_goOn_0
    rw [e7, e6, ew]
    have n1 : (nI so0 = 1) ↔ so0 = 1 := nI_eq (b := 1) (by omega) (by omega)
    have n2 : (nI so0 = 2) ↔ so0 = 2 := nI_eq (b := 2) (by omega) (by omega)
    unfold wd
    refine ⟨fun c z ez => ⟨?_, ez, rfl⟩, fun c => ⟨fun c2 z ez => ⟨?_, ez, rfl⟩, fun c2 z ez => ⟨?_, ez, rfl⟩⟩⟩
    · rw [n1.mp c]; rfl
    · rw [if_neg]
      intro z
      rw [Bool.or_eq_true, beq_iff_eq, beq_iff_eq] at z
      exact z.elim (fun q => c (n1.mpr q)) (fun q => c2 (n2.mpr q))
    · rw [n2.mp c2]; rfl
end TOK
