/-! ===== texts: the class's reader, its helpers ===== -/
def CS (X : Mem) (L key st en so : Nat) (out : List Int32) (ao : Nat) (V : Mem) : Prop := (∀ r i, ¬ (r = 6 ∧ i = 0) → ¬ (r = 18 ∧ i = 0) → V r i = X r i) ∧ V 6 0 3 = nI key ∧ V 6 0 8 = nI L ∧ V 6 0 5 = nI st ∧ V 6 0 6 = nI en ∧ V 6 0 7 = nI so ∧ V 6 0 2 = nI out.length ∧ (∀ (i : Nat) (c : Int32), out[i]? = some c → V 18 0 i = trc c) ∧ V 6 0 4 = nI ao
def TW (tp : NF) (L st en so : Nat) : Prop := ∃ e w, Tok tp L e w st en so
def vd (nb : Nat) : List Int32 → Nat → Option Nat
  | [], p => some p
  | c :: l, p => (okc nb c p).bind (vd nb l)
def sgl (c : Int32) : Nat := if c = 124 then 0 else if c = 38 then 1 else if c = 60 ∨ c = 61 ∨ c = 62 then 2 else if c = 43 ∨ c = 45 then 3 else if c = 42 ∨ c = 47 then 4 else 5
section CHELP
variable {d D : Nat} {V W X M X1 M1 : Mem} {P : Option AV → Mem → Prop} {m h T i j k r t u q m1 h1 s p e st en so so0 L st1 en1 so1 pr ao key lst nb : Nat} {n n1 tp ts : NF} {a b c x y z kk ss c0 sg : Int32} {w : Bool} {stk code ops S out ys : List Int32}
theorem TW.le (h : TW tp L st en so) : st ≤ en ∧ en ≤ L ∧ so ≤ 4 := by
  obtain ⟨e, w, h⟩ := h
  exact h.le.2
theorem TW.lt (h : TW tp L st en so) (h0 : ¬ so = 0) : st < L ∧ st < en := by
  obtain ⟨e, w, h⟩ := h
  exact h.lt h0
theorem TW.s1 (h : TW tp L st en so) (h1 : so = 1) : srt (tp st) = 1 := by
  obtain ⟨e, w, h1', h2, h3, h4⟩ := h
  rcases h4 with ⟨q1, q2, q3⟩ | ⟨q1, q2, q3, q4⟩
  · omega
  · rcases q4 with ⟨r1, r2, r3⟩ | ⟨q, r1, r2, r3, r4, r5⟩
    · omega
    · have := r3 st (Nat.le_refl _) r2
      split at r5 <;> omega
theorem TW.s2 (h : TW tp L st en so) (h1 : so = 2) : ∀ j, st ≤ j → j < en → srt (tp j) = 2 := by
  obtain ⟨e, w, h1', h2, h3, h4⟩ := h
  rcases h4 with ⟨q1, q2, q3⟩ | ⟨q1, q2, q3, q4⟩
  · omega
  · rcases q4 with ⟨r1, r2, r3⟩ | ⟨q, r1, r2, r3, r4, r5⟩
    · omega
    · intro j j1 j2
      have := r3 j j1 j2
      split at r5 <;> omega
theorem vd_app : ∀ (l l' : List Int32) (p : Nat), vd nb (l ++ l') p = (vd nb l p).bind (vd nb l')
  | [], l', p => rfl
  | c :: l, l', p => by
    rw [List.cons_append, vd, vd]
    cases okc nb c p with
    | none => rfl
    | some q => exact vd_app l l' q
theorem vdep_vd {f : NF} {l : List Int32} (h : CR f l) : ∀ k, k ≤ l.length → vdep nb f k = vd nb (l.take k) 0
  | 0, _ => rfl
  | k + 1, hk => by
    have hk' : k < l.length := by omega
    rw [vdep, vdep_vd h k (by omega), List.take_succ_eq_append_getElem hk', vd_app, h k l[k] (List.getElem?_eq_getElem hk')]
    congr 1
    funext p
    rw [vd]
    cases okc nb l[k] p with
    | none => rfl
    | some q => rfl
theorem okc_op (h : -10 < c ∧ c < 0) (hp : 2 ≤ p) : okc nb c p = some (p - 1) := by
  unfold okc
  rw [if_pos h.2, if_neg (op_n11 h).2, if_pos h.1, if_pos hp]
theorem okc_not (hp : 1 ≤ p) : okc nb (-10) p = some p := by
  unfold okc
  rw [if_pos (by decide), if_pos rfl, if_pos hp]
theorem numv_rng (hd : ∀ j, st ≤ j → j < st + u → srt (tp j) = 2) : ∀ k, k ≤ u → k ≤ 4 → ∃ v, v < 10 ^ k ∧ numv tp st k = nI v
  | 0, _, _ => ⟨0, by decide, rfl⟩
  | k + 1, hk, h4 => by
    obtain ⟨v, h1, h2⟩ := numv_rng hd k (by omega) (by omega)
    have hs := hd (st + k) (by omega) (by omega)
    unfold srt at hs
    by_cases q : 97 ≤ tp (st + k) ∧ tp (st + k) ≤ 122
    · rw [if_pos q] at hs; omega
    · rw [if_neg q] at hs
      by_cases q2 : 48 ≤ tp (st + k) ∧ tp (st + k) ≤ 57
      · have a1 := ti_le.mp q2.1
        have a2 := ti_le.mp q2.2
        rw [show (48 : Int32).toInt = 48 from rfl] at a1
        rw [show (57 : Int32).toInt = 57 from rfl] at a2
        obtain ⟨b, b1, b2⟩ := nI_of (x := tp (st + k)) (by rw [ti_lt, ti0]; omega)
        rw [b2, nI_toInt b1] at a1 a2
        refine ⟨10 * v + b - 48, ?_, ?_⟩
        · rw [Nat.pow_succ]; omega
        · rw [numv, h2, b2, show (10 : Int32) = nI 10 from rfl, pk_mul, nI_add, show (48 : Int32) = nI 48 from rfl, pk_sub (by omega)]
      · rw [if_neg q2] at hs; omega
theorem okc_num (hc : ∃ v, v < 10000 ∧ c = nI v) : okc nb c p = some (p + 1) := by
  obtain ⟨v, h1, rfl⟩ := hc
  unfold okc
  rw [if_neg (nI_pos (by omega)), if_pos (show nI v < 10000 from nI_lt (b := 10000) h1 (by omega))]
theorem nmx_rng (hk : key < 3) (h : ¬ nmx key c < 0) : ∃ v, v < nbk key ∧ nmx key c = nI v := by
  rcases (show key = 0 ∨ key = 1 ∨ key = 2 by omega) with e | e | e
  · subst e
    have h : ¬ (if c = 119 then (0 : Int32) else if c = 115 then 1 else if c = 122 then 2 else -1) < 0 := h
    show ∃ v, v < 3 ∧ (if c = 119 then (0 : Int32) else if c = 115 then 1 else if c = 122 then 2 else -1) = nI v
    by_cases q1 : c = 119
    · rw [if_pos q1]; exact ⟨0, by decide, rfl⟩
    · rw [if_neg q1] at h ⊢
      by_cases q2 : c = 115
      · rw [if_pos q2]; exact ⟨1, by decide, rfl⟩
      · rw [if_neg q2] at h ⊢
        by_cases q3 : c = 122
        · rw [if_pos q3]; exact ⟨2, by decide, rfl⟩
        · rw [if_neg q3] at h; exact absurd (by decide) h
  · subst e
    have h : ¬ (if c = 104 then (0 : Int32) else if c = 119 then 1 else -1) < 0 := h
    show ∃ v, v < 2 ∧ (if c = 104 then (0 : Int32) else if c = 119 then 1 else -1) = nI v
    by_cases q1 : c = 104
    · rw [if_pos q1]; exact ⟨0, by decide, rfl⟩
    · rw [if_neg q1] at h ⊢
      by_cases q2 : c = 119
      · rw [if_pos q2]; exact ⟨1, by decide, rfl⟩
      · rw [if_neg q2] at h; exact absurd (by decide) h
  · subst e
    have h : ¬ (if c = 119 then (0 : Int32) else if c = 115 then 1 else -1) < 0 := h
    show ∃ v, v < 2 ∧ (if c = 119 then (0 : Int32) else if c = 115 then 1 else -1) = nI v
    by_cases q1 : c = 119
    · rw [if_pos q1]; exact ⟨0, by decide, rfl⟩
    · rw [if_neg q1] at h ⊢
      by_cases q2 : c = 115
      · rw [if_pos q2]; exact ⟨1, by decide, rfl⟩
      · rw [if_neg q2] at h; exact absurd (by decide) h
theorem okc_name (hv : u < nb) (hnb : nb ≤ 3) : okc nb (10000 + nI u) p = some (p + 1) := by
  have e : (10000 : Int32) + nI u = nI (10000 + u) := nI_add 10000 u
  rw [e]
  unfold okc
  rw [if_neg (nI_pos (by omega)), if_neg (show ¬ nI (10000 + u) < 10000 from nI_nlt (b := 10000) (by omega) (by omega)), if_pos (nI_lt (by omega) (by omega))]
theorem trc_nn (hc : ∃ v, v < 20000 ∧ c = nI v) : trc c = c := by
  obtain ⟨v, h1, rfl⟩ := hc
  unfold trc
  rw [if_neg (nI_pos (by omega))]
/-- signs: their level, their code, their byte -/
theorem sg_ok (h : sgl c < 5) : (-10 < sgh c ∧ sgh c < 0) ∧ rnk (sgh c) = sgl c + 1 ∧ trc (sgh c) = 20000 + c := by
  have : c = 124 ∨ c = 38 ∨ c = 60 ∨ c = 61 ∨ c = 62 ∨ c = 43 ∨ c = 45 ∨ c = 42 ∨ c = 47 := by
    unfold sgl at h
    by_cases q1 : c = 124
    · exact Or.inl q1
    · rw [if_neg q1] at h
      by_cases q2 : c = 38
      · exact Or.inr (Or.inl q2)
      · rw [if_neg q2] at h
        by_cases q3 : c = 60 ∨ c = 61 ∨ c = 62
        · rcases q3 with q | q | q
          · exact Or.inr (Or.inr (Or.inl q))
          · exact Or.inr (Or.inr (Or.inr (Or.inl q)))
          · exact Or.inr (Or.inr (Or.inr (Or.inr (Or.inl q))))
        · rw [if_neg q3] at h
          by_cases q4 : c = 43 ∨ c = 45
          · rcases q4 with q | q
            · exact Or.inr (Or.inr (Or.inr (Or.inr (Or.inr (Or.inl q)))))
            · exact Or.inr (Or.inr (Or.inr (Or.inr (Or.inr (Or.inr (Or.inl q))))))
          · rw [if_neg q4] at h
            by_cases q5 : c = 42 ∨ c = 47
            · exact Or.inr (Or.inr (Or.inr (Or.inr (Or.inr (Or.inr (Or.inr q5))))))
            · rw [if_neg q5] at h; omega
  rcases this with q | q | q | q | q | q | q | q | q <;> subst q <;> decide
theorem sg_no (h : ¬ sgl c < 5) : sgh c = 0 := by
  unfold sgl at h
  unfold sgh
  by_cases q1 : c = 124
  · rw [if_pos q1] at h; omega
  · rw [if_neg q1] at h
    by_cases q2 : c = 38
    · rw [if_pos q2] at h; omega
    · rw [if_neg q2] at h
      by_cases q3 : c = 60 ∨ c = 61 ∨ c = 62
      · rw [if_pos q3] at h; omega
      · rw [if_neg q3] at h
        by_cases q4 : c = 43 ∨ c = 45
        · rw [if_pos q4] at h; omega
        · rw [if_neg q4] at h
          by_cases q5 : c = 42 ∨ c = 47
          · rw [if_pos q5] at h; omega
          · rw [if_neg q2, if_neg (fun z => q5 (Or.inl z)), if_neg (fun z => q4 (Or.inl z)), if_neg (fun z => q4 (Or.inr z)), if_neg (fun z => q5 (Or.inr z)), if_neg (fun z => q3 (Or.inl z)), if_neg (fun z => q3 (Or.inr (Or.inl z))), if_neg (fun z => q3 (Or.inr (Or.inr z))), if_neg q1]
theorem x_goC (hC : CS X L key st en so out ao V) (htp : ∀ j, j < L → X 17 0 j = tp j) (hL : L ≤ 96) (hW : TW tp L st en so) (hp : ∀ st1 en1 so1, Tok tp L en (wd so) st1 en1 so1 → ∀ V1, CS X L key st1 en1 so1 out ao V1 → P none V1) : Cl UX (d + 2) mX1_goOn [aR 6 0] V P := by
  obtain ⟨c1, c2, c3, c4, c5, c6, c7, c8, c9⟩ := hC
  have hle := hW.le
  refine x_goOn (w := wd so) c5 c6 hle.2.2 rfl c3 hL hle.2.1 (fun j hj => by rw [c1 17 0 (by omega) (by omega), htp j hj]) (fun st1 en1 so1 hX => hp st1 en1 so1 hX _ ?_)
  unfold tkf
  refine ⟨fun r i q1 q2 => by rw [ma_ne q1, c1 r i q1 q2], ?_, ?_, ?_, ?_, ?_, ?_, ?_, ?_⟩
  · rw [ma_same, up_n (by omega), up_n (by omega), up_n (by omega), c2]
  · rw [ma_same, up_n (by omega), up_n (by omega), up_n (by omega), c3]
  · rw [ma_same, up_n (by omega), up_n (by omega), up_s]
  · rw [ma_same, up_n (by omega), up_s]
  · rw [ma_same, up_s]
  · rw [ma_same, up_n (by omega), up_n (by omega), up_n (by omega), c7]
  · rw [ma_o (by decide)]; exact c8
  · rw [ma_same, up_n (by omega), up_n (by omega), up_n (by omega), c9]
theorem x_addC (hC : CS X L key st en so out ao V) (hl : out.length < 96) (ha : a = trc c) (hp : ∀ V1, CS X L key st en so (out ++ [c]) ao V1 → P (some (aI 1)) V1) : Cl UX (d + 1) mX1_addStep [aR 6 0, aI a] V P := by
  obtain ⟨c1, c2, c3, c4, c5, c6, c7, c8, c9⟩ := hC
  refine clX1_addStep a V ?_
  unfold wpX1_addStep_0
  rw [c7]
  refine ⟨fun _ => ⟨out.length, rfl, hl, fun V2 e2 V3 e3 => hp V3 ⟨fun r i q1 q2 => ?_, ?_, ?_, ?_, ?_, ?_, ?_, fun i c' hc' => ?_, ?_⟩⟩, fun q => absurd (nI_lt (b := 96) hl (by omega)) q⟩
  · rw [e3, mu_eq, ma_ne q1, e2, mu_eq, ma_ne q2, c1 r i q1 q2]
  · rw [e3, mu_sn (by omega), e2, mu_o (by decide), c2]
  · rw [e3, mu_sn (by omega), e2, mu_o (by decide), c3]
  · rw [e3, mu_sn (by omega), e2, mu_o (by decide), c4]
  · rw [e3, mu_sn (by omega), e2, mu_o (by decide), c5]
  · rw [e3, mu_sn (by omega), e2, mu_o (by decide), c6]
  · rw [e3, mu_sk, e2, mu_o (by decide), c7, nI_1, List.length_append, List.length_cons, List.length_nil]
  · rw [e3, mu_o (by decide), e2, mu_s]
    by_cases ei : i = out.length
    · subst ei
      rw [List.getElem?_append_right (Nat.le_refl _), Nat.sub_self] at hc'
      have hc' : c = c' := by simpa using hc'
      rw [up_s, ha, hc']
    · have hi := (List.getElem?_eq_some_iff.mp hc').1
      rw [List.length_append, List.length_cons, List.length_nil] at hi
      rw [List.getElem?_append_left (by omega)] at hc'
      rw [up_n ei]
      exact c8 i c' hc'
  · rw [e3, mu_sn (by omega), e2, mu_o (by decide), c9]
theorem x_isSignC (hC : CS X L key st en so out ao V) (htp : ∀ j, j < L → X 17 0 j = tp j) (hL : L ≤ 96) (hW : TW tp L st en so) (hT : so = 3 → tp st = a → P (some (aI 1)) V) (hF : ¬ (so = 3 ∧ tp st = a) → P (some (aI 0)) V) : Cl UX (d + 1) mX1_isSign [aR 6 0, aI a] V P := by
  obtain ⟨c1, c2, c3, c4, c5, c6, c7, c8, c9⟩ := hC
  have hle := hW.le
  have n3 : (nI so = 3) ↔ so = 3 := nI_eq (b := 3) (by omega) (by omega)
  refine clX1_isSign a V ?_
  unfold wpX1_isSign_0
  rw [c6, c4]
  refine ⟨fun q => hF (fun z => q (n3.mpr z.1)), fun q => ?_⟩
  have h3 := n3.mp q
  have hlt := hW.lt (by omega)
  have e17 : V 17 0 st = tp st := by rw [c1 17 0 (by omega) (by omega), htp st hlt.1]
  refine ⟨st, rfl, by omega, fun z => hF (fun y => z (by rw [e17]; exact y.2)), fun z => hT h3 (by rw [← e17]; exact z)⟩
theorem x_isSignOfC (hC : CS X L key st en so out ao V) (htp : ∀ j, j < L → X 17 0 j = tp j) (hL : L ≤ 96) (hW : TW tp L st en so) (ea : a = nI u) (hu : u < 5) (hT : so = 3 → sgl (tp st) = u → P (some (aI 1)) V) (hF : ¬ (so = 3 ∧ sgl (tp st) = u) → P (some (aI 0)) V) : Cl UX (d + 2) mX1_isSignOf [aR 6 0, aI a] V P := by
  refine clX1_isSignOf a V ?_
  unfold wpX1_isSignOf_0
  subst ea
  have eqn : ∀ b, b < 5 → ((nI u = nI b) ↔ u = b) := fun b hb => nI_eq (by omega) (by omega)
  unfold sgl at hT hF
  refine ⟨fun q => ?_, fun q => ?_, fun q => ?_, fun q => ?_, fun q => ?_⟩
  · have e := (eqn 0 (by omega)).mp q
    refine x_isSignC hC htp hL hW (fun h3 hc => ⟨_, rfl, Or.inr rfl, hT h3 (by rw [if_pos hc, e])⟩) (fun no => ⟨_, rfl, Or.inl rfl, hF (fun z => ?_)⟩)
    by_cases q1 : tp st = 124
    · exact no ⟨z.1, q1⟩
    · have := z.2
      rw [if_neg q1] at this
      split at this
      · omega
      · split at this
        · omega
        · split at this
          · omega
          · split at this <;> omega
  · have e := (eqn 1 (by omega)).mp q
    refine x_isSignC hC htp hL hW (fun h3 hc => ⟨_, rfl, Or.inr rfl, hT h3 (by rw [hc, e]; rfl)⟩) (fun no => ⟨_, rfl, Or.inl rfl, hF (fun z => ?_)⟩)
    by_cases q1 : tp st = 38
    · exact no ⟨z.1, q1⟩
    · have := z.2
      rw [if_neg q1] at this
      split at this
      · omega
      · split at this
        · omega
        · split at this
          · omega
          · split at this <;> omega
  · have e := (eqn 2 (by omega)).mp q
    refine x_isSignC hC htp hL hW (fun h3 hc => ⟨_, rfl, t2 (hT h3 (by rw [hc, e]; rfl))⟩) (fun no1 => ⟨_, rfl, f2 (x_isSignC hC htp hL hW (fun h3 hc => ⟨_, rfl, t2 (hT h3 (by rw [hc, e]; rfl))⟩) (fun no2 => ⟨_, rfl, f2 (x_isSignC hC htp hL hW (fun h3 hc => ⟨_, rfl, t1 (hT h3 (by rw [hc, e]; rfl))⟩) (fun no3 => ⟨_, rfl, f1 (hF (fun z => ?_))⟩))⟩))⟩)
    have hz := z.2
    have n3 : ¬ (tp st = 60 ∨ tp st = 61 ∨ tp st = 62) := by
      rintro (y | y | y)
      · exact no1 ⟨z.1, y⟩
      · exact no2 ⟨z.1, y⟩
      · exact no3 ⟨z.1, y⟩
    rw [if_neg n3] at hz
    split at hz
    · omega
    · split at hz
      · omega
      · split at hz
        · omega
        · split at hz <;> omega
  · have e := (eqn 3 (by omega)).mp q
    refine x_isSignC hC htp hL hW (fun h3 hc => ⟨_, rfl, t2 (hT h3 (by rw [hc, e]; rfl))⟩) (fun no1 => ⟨_, rfl, f2 (x_isSignC hC htp hL hW (fun h3 hc => ⟨_, rfl, t1 (hT h3 (by rw [hc, e]; rfl))⟩) (fun no2 => ⟨_, rfl, f1 (hF (fun z => ?_))⟩))⟩)
    have hz := z.2
    have n3 : ¬ (tp st = 43 ∨ tp st = 45) := by
      rintro (y | y)
      · exact no1 ⟨z.1, y⟩
      · exact no2 ⟨z.1, y⟩
    rw [if_neg n3] at hz
    split at hz
    · omega
    · split at hz
      · omega
      · split at hz
        · omega
        · split at hz <;> omega
  · have e : u = 4 := by
      obtain ⟨y0, y1, y2, y3⟩ := q
      have a0 : ¬ u = 0 := fun z => y0 ((eqn 0 (by omega)).mpr z)
      have a1 : ¬ u = 1 := fun z => y1 ((eqn 1 (by omega)).mpr z)
      have a2 : ¬ u = 2 := fun z => y2 ((eqn 2 (by omega)).mpr z)
      have a3 : ¬ u = 3 := fun z => y3 ((eqn 3 (by omega)).mpr z)
      omega
    refine x_isSignC hC htp hL hW (fun h3 hc => ⟨_, rfl, t2 (hT h3 (by rw [hc, e]; rfl))⟩) (fun no1 => ⟨_, rfl, f2 (x_isSignC hC htp hL hW (fun h3 hc => ⟨_, rfl, t1 (hT h3 (by rw [hc, e]; rfl))⟩) (fun no2 => ⟨_, rfl, f1 (hF (fun z => ?_))⟩))⟩)
    have hz := z.2
    have n3 : ¬ (tp st = 42 ∨ tp st = 47) := by
      rintro (y | y)
      · exact no1 ⟨z.1, y⟩
      · exact no2 ⟨z.1, y⟩
    rw [if_neg n3] at hz
    split at hz
    · omega
    · split at hz
      · omega
      · split at hz
        · omega
        · split at hz <;> omega
theorem x_numberC (hC : CS X L key st en so out ao V) (htp : ∀ j, j < L → X 17 0 j = tp j) (hL : L ≤ 96) (hW : TW tp L st en so) (hp : P (some (aI (numv tp st (en - st)))) V) : Cl UX (d + 1) mX1_numberRead [aR 6 0] V P := by
  obtain ⟨c1, c2, c3, c4, c5, c6, c7, c8, c9⟩ := hC
  have hle := hW.le
  have Lp : ∀ f k, st + k + f = en → Gq (Kp (d + 1) mX1_numberRead UX P) UX cX1_numberRead 3 RX1 7 [(0, aR 6 0), (1, aI (numv tp st k)), (2, aI (nI (st + k)))] [] V := by
    intro f
    induction f with
    | zero =>
      intro k hk
      refine okX1_numberRead_7 (I7 := fun _ _ _ => False) _ _ V (fun _ _ _ q => q.elim) ?_
      unfold wpX1_numberRead_7
      rw [c5]
      refine ⟨fun _ => ?_, fun q => absurd (nI_le (by omega) (by omega)) q⟩
      rw [show k = en - st by omega]
      exact hp
    | succ f ih =>
      intro k hk
      refine okX1_numberRead_7 (I7 := fun y1 y2 W => y1 = numv tp st (k + 1) ∧ y2 = nI (st + (k + 1)) ∧ W = V) _ _ V (fun y1 y2 W z => ?_) ?_
      · obtain ⟨rfl, rfl, hW⟩ := z
        rw [hW]
        exact ih (k + 1) (by omega)
      · unfold wpX1_numberRead_7
        rw [c5]
        refine ⟨fun q => absurd q (nI_ge (by omega) (by omega)), fun _ => ⟨st + k, rfl, by omega, fun z ez => ⟨?_, nI_1 (st + k), rfl⟩⟩⟩
        rw [ez, c1 17 0 (by omega) (by omega), htp _ (by omega), numv]
  refine clX1_numberRead (I7 := fun y1 y2 W => y1 = numv tp st 0 ∧ y2 = nI (st + 0) ∧ W = V) V (fun y1 y2 W z => ?_) ?_
  · obtain ⟨rfl, rfl, hW⟩ := z
    rw [hW]
    exact Lp (en - st) 0 (by omega)
  · unfold wpX1_numberRead_0
    intro z ez
    exact ⟨rfl, by rw [ez, c4]; rfl, rfl⟩
theorem x_addOpC (hC : CS X L key st en so out ao V) (htp : ∀ j, j < L → X 17 0 j = tp j) (hL : L ≤ 96) (hW : TW tp L st en so) (hl : out.length < 96) (ha : a = trc c) (hp : ∀ st1 en1 so1, Tok tp L en (wd so) st1 en1 so1 → ∀ V1, CS X L key st1 en1 so1 (out ++ [c]) (ao + 1) V1 → P (some (aI 1)) V1) : Cl UX (d + 3) mX1_addOperand [aR 6 0, aI a] V P := by
  refine clX1_addOperand a V ?_
  unfold wpX1_addOperand_0
  intro V1 e1
  have hC1 : CS X L key st en so out (ao + 1) V1 := by
    obtain ⟨c1, c2, c3, c4, c5, c6, c7, c8, c9⟩ := hC
    refine ⟨fun r i q1 q2 => by rw [e1, mu_eq, ma_ne q1, c1 r i q1 q2], ?_, ?_, ?_, ?_, ?_, ?_, ?_, ?_⟩
    · rw [e1, mu_sn (by omega), c2]
    · rw [e1, mu_sn (by omega), c3]
    · rw [e1, mu_sn (by omega), c4]
    · rw [e1, mu_sn (by omega), c5]
    · rw [e1, mu_sn (by omega), c6]
    · rw [e1, mu_sn (by omega), c7]
    · rw [e1, mu_o (by decide)]; exact c8
    · rw [e1, mu_sk, c9, nI_1]
  exact x_goC hC1 htp hL hW (fun st1 en1 so1 hX V2 hC2 => ⟨rfl, x_addC hC2 hl ha (fun V3 hC3 => ⟨_, rfl, Or.inr rfl, hp st1 en1 so1 hX V3 hC3⟩)⟩)
end CHELP
