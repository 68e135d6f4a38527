/-! ===== the reference: laws worked out ===== -/
def gCt (n : NF) (key : Int32) : Nat → Int32
  | 0 => -1
  | t + 1 => if n (107 + 2 * t) / 1000 = key then nI t else gCt n key t
def tw (sg a b : Int32) : Int32 :=
  if sg = -8 then a * b else if sg = -7 then a - b else if sg = -6 then a + b else if sg = -5 then (if a ≤ b then 0 else 1) else if sg = -4 then (if a = b then 1 else 0) else if sg = -3 then (if b ≤ a then 0 else 1)
  else if sg = -2 then (if a = 0 then 0 else if b = 0 then 0 else 1) else if sg = -1 then (if a = 0 then (if b = 0 then 0 else 1) else 1) else (if b = 0 then 0 else a / b)
def st1e (sg : Int32) (fa : NF) (l : List Int32) : List Int32 :=
  if sg < 0 then (if sg = -10 then (match l with | a :: l => (if a = 0 then 1 else 0) :: l | [] => []) else (match l with | b :: a :: l => tw sg a b :: l | l => l))
  else (if 10000 ≤ sg then fa (sg - 10000).toNatClampNeg :: l else sg :: l)
def evL (c fa : NF) : Nat → List Int32
  | 0 => []
  | k + 1 => st1e (c k) fa (evL c fa k)
def okc (nb : Nat) (sg : Int32) (p : Nat) : Option Nat :=
  if sg < 0 then (if sg = -10 then (if 1 ≤ p then some p else none) else if -10 < sg then (if 2 ≤ p then some (p - 1) else none) else none)
  else if sg < 10000 then some (p + 1) else if sg < nI (10000 + nb) then some (p + 1) else none
def vdep (nb : Nat) (c : NF) : Nat → Option Nat
  | 0 => some 0
  | k + 1 => (vdep nb c k).bind (okc nb (c k))
theorem vdep_pre {nb : Nat} {c : NF} : ∀ (q k : Nat) {p : Nat}, vdep nb c (k + q) = some p → ∃ p', vdep nb c k = some p'
  | 0, k, p, h => ⟨p, h⟩
  | q + 1, k, p, h => by
    rw [← Nat.add_assoc, vdep] at h
    cases h1 : vdep nb c (k + q) with
    | none => rw [h1] at h; cases h
    | some p1 => exact vdep_pre q k h1
theorem okc_len {nb p p' : Nat} {sg : Int32} {fa : NF} {l : List Int32} (hl : l.length = p) (h : okc nb sg p = some p') : (st1e sg fa l).length = p' ∧ p' ≤ p + 1 := by
  unfold okc at h
  unfold st1e
  by_cases h1 : sg < 0
  · rw [if_pos h1] at h ⊢
    by_cases h2 : sg = -10
    · rw [if_pos h2] at h ⊢
      by_cases h3 : 1 ≤ p
      · rw [if_pos h3] at h
        cases h
        cases l with
        | nil => simp at hl; omega
        | cons a l => exact ⟨hl, by omega⟩
      · rw [if_neg h3] at h; cases h
    · rw [if_neg h2] at h ⊢
      by_cases h4 : -10 < sg
      · rw [if_pos h4] at h
        by_cases h3 : 2 ≤ p
        · rw [if_pos h3] at h
          cases h
          match l, hl with
          | [], hl => simp at hl; omega
          | [a], hl => simp at hl; omega
          | b :: a :: l, hl => simp at hl ⊢; omega
        · rw [if_neg h3] at h; cases h
      · rw [if_neg h4] at h; cases h
  · rw [if_neg h1] at h ⊢
    have hp : p' = p + 1 := by
      by_cases h2 : sg < 10000
      · rw [if_pos h2] at h; cases h; rfl
      · rw [if_neg h2] at h
        by_cases h3 : sg < nI (10000 + nb)
        · rw [if_pos h3] at h; cases h; rfl
        · rw [if_neg h3] at h; cases h
    subst hp
    split
    · simp [hl]
    · simp [hl]
theorem evL_len {nb : Nat} {c fa : NF} : ∀ (k : Nat) {p : Nat}, vdep nb c k = some p → (evL c fa k).length = p ∧ p ≤ k
  | 0, p, h => by cases h; exact ⟨rfl, Nat.le_refl _⟩
  | k + 1, p, h => by
    rw [vdep] at h
    cases h1 : vdep nb c k with
    | none => rw [h1] at h; cases h
    | some p1 =>
      rw [h1] at h
      obtain ⟨a, b⟩ := evL_len (fa := fa) k h1
      obtain ⟨a2, b2⟩ := okc_len (fa := fa) a (show okc nb (c k) p1 = some p from h)
      exact ⟨a2, by omega⟩
/-- the stack's row and the list of what lies on it -/
def SR (s : NF) (l : List Int32) : Prop := ∀ (i : Nat) (a : Int32), l[i]? = some a → s (l.length - 1 - i) = a
theorem SR.push {s : NF} {l : List Int32} (h : SR s l) (v : Int32) : SR (upd s l.length v) (v :: l) := by
  intro i a ha
  cases i with
  | zero =>
    have ha : v = a := by simpa using ha
    subst ha
    exact if_pos (by simp)
  | succ i =>
    have ha : l[i]? = some a := by simpa using ha
    have hi := (List.getElem?_eq_some_iff.mp ha).1
    have := h i a ha
    rw [show (v :: l).length - 1 - (i + 1) = l.length - 1 - i by simp; omega, up_n (by omega)]
    exact this
theorem SR.pop {s : NF} {a : Int32} {l : List Int32} (h : SR s (a :: l)) : SR s l ∧ s l.length = a := by
  refine ⟨fun i b hb => ?_, ?_⟩
  · have := h (i + 1) b (by simpa using hb)
    rw [show (a :: l).length - 1 - (i + 1) = l.length - 1 - i by simp; omega] at this
    exact this
  · have := h 0 a (by simp)
    simpa using this
section REF3
variable {d : Nat} {V : Mem} {P : Option AV → Mem → Prop}
theorem r_counts {T : Nat} {key : Int32} (e : V 25 0 10 = nI T) (hT : T ≤ 14) (hp : P (some (aI (gCt (V 25 0) key T))) V) : Cl UM (d + 1) mX7_counts [aR 24 0, aI key] V P := by
  have L : ∀ t, t ≤ T → P (some (aI (gCt (V 25 0) key t))) V → Gq (Kp (d + 1) mX7_counts UM P) UM cX7_counts 3 RX7 10 [(0, aR 24 0), (1, aI key), (2, aI (nI t - 1))] [] V := by
    intro t
    induction t with
    | zero =>
      intro _ hp
      refine okX7_counts_10 (I10 := fun _ _ _ => False) key _ V (fun _ _ _ q => q.elim) ?_
      unfold wpX7_counts_10
      exact ⟨fun _ => hp, fun c => absurd (by decide) c⟩
    | succ t ih =>
      intro ht hp
      refine okX7_counts_10 (I10 := fun x1 x2 W => x1 = key ∧ x2 = nI t - 1 ∧ W = V ∧ P (some (aI (gCt (V 25 0) key t))) V) key _ V (fun x1 x2 W q => ?_) ?_
      · obtain ⟨rfl, rfl, rfl, hq⟩ := q
        exact ih (by omega) hq
      · unfold wpX7_counts_10
        rw [nI_pred]
        refine ⟨fun c => absurd c (nI_pos (by omega)), fun _ => ⟨107 + 2 * t, ?_, by omega, fun c => ⟨rfl, ?_, rfl, ?_⟩, fun c => ?_⟩⟩
        · rw [show (107 : Int32) = nI 107 from rfl, show (2 : Int32) = nI 2 from rfl, pk_mul, nI_add]
        · cases t with
          | zero => rfl
          | succ t => rw [pk_m1, nI_pred]
        · rw [gCt, if_neg c] at hp; exact hp
        · rw [gCt, if_pos c] at hp; exact hp
  refine clX7_counts (I10 := fun x1 x2 W => x1 = key ∧ x2 = nI T - 1 ∧ W = V) key V (fun x1 x2 W q => ?_) ?_
  · obtain ⟨rfl, rfl, rfl⟩ := q
    exact L T (Nat.le_refl T) hp
  · unfold wpX7_counts_0
    intro z ez
    exact ⟨rfl, by rw [ez, e], rfl⟩
theorem r_two {sg a b : Int32} (hp : P (some (aI (tw sg a b))) V) : Cl UM (d + 1) mX7_two [aI sg, aI a, aI b] V P := by
  refine clX7_two sg a b V ?_
  unfold wpX7_two_0
  refine ⟨fun c => ?_, fun c => ?_, fun c => ?_, fun c => ⟨fun c1 => ?_, fun c1 => ?_⟩, fun c => ⟨fun c1 => ?_, fun c1 => ?_⟩, fun c => ⟨fun c1 => ?_, fun c1 => ?_⟩, fun c => ⟨fun c1 => ?_, fun c1 => ⟨fun c2 => ?_, fun c2 => ?_⟩⟩, fun c => ⟨fun c1 => ?_, fun c1 => ⟨fun c2 => ?_, fun c2 => ?_⟩⟩, fun c => ⟨fun c1 => ⟨c1, ?_⟩, fun c1 => ?_⟩⟩
  · subst c; exact hp
  · subst c; exact hp
  · subst c; exact hp
  · subst c; have e : tw (-5) a b = if a ≤ b then 0 else 1 := rfl
    rw [e, if_pos c1] at hp; exact hp
  · subst c; have e : tw (-5) a b = if a ≤ b then 0 else 1 := rfl
    rw [e, if_neg c1] at hp; exact hp
  · subst c; have e : tw (-4) a b = if a = b then 1 else 0 := rfl
    rw [e, if_neg c1] at hp; exact hp
  · subst c; have e : tw (-4) a b = if a = b then 1 else 0 := rfl
    rw [e, if_pos c1] at hp; exact hp
  · subst c; have e : tw (-3) a b = if b ≤ a then 0 else 1 := rfl
    rw [e, if_pos c1] at hp; exact hp
  · subst c; have e : tw (-3) a b = if b ≤ a then 0 else 1 := rfl
    rw [e, if_neg c1] at hp; exact hp
  · subst c; have e : tw (-2) a b = if a = 0 then 0 else if b = 0 then 0 else 1 := rfl
    rw [e, if_pos c1] at hp; exact hp
  · subst c; have e : tw (-2) a b = if a = 0 then 0 else if b = 0 then 0 else 1 := rfl
    rw [e, if_neg c1, if_pos c2] at hp; exact hp
  · subst c; have e : tw (-2) a b = if a = 0 then 0 else if b = 0 then 0 else 1 := rfl
    rw [e, if_neg c1, if_neg c2] at hp; exact hp
  · subst c; have e : tw (-1) a b = if a = 0 then (if b = 0 then 0 else 1) else 1 := rfl
    rw [e, if_neg c1] at hp; exact hp
  · subst c; have e : tw (-1) a b = if a = 0 then (if b = 0 then 0 else 1) else 1 := rfl
    rw [e, if_pos c1, if_pos c2] at hp; exact hp
  · subst c; have e : tw (-1) a b = if a = 0 then (if b = 0 then 0 else 1) else 1 := rfl
    rw [e, if_pos c1, if_neg c2] at hp; exact hp
  · obtain ⟨q1, q2, q3, q4, q5, q6, q7, q8⟩ := c
    rw [tw, if_neg q1, if_neg q2, if_neg q3, if_neg q4, if_neg q5, if_neg q6, if_neg q7, if_neg q8, if_neg c1] at hp; exact hp
  · obtain ⟨q1, q2, q3, q4, q5, q6, q7, q8⟩ := c
    rw [tw, if_neg q1, if_neg q2, if_neg q3, if_neg q4, if_neg q5, if_neg q6, if_neg q7, if_neg q8, if_pos c1] at hp; exact hp
/-- the value of the text t with these facts -/
def lawC (n : NF) (t : Nat) : NF := fun k => n (135 + 96 * t + k)
def lawV (n : NF) (t L : Nat) (fa : NF) : Int32 := (evL (lawC n t) fa L).headD 0
theorem r_works {t L key nb : Nat} {a : Int32} (ea : a = nI t) (ht : t < 14) (hn : V 25 0 (107 + 2 * t) = nI (1000 * key + L)) (hk : key < 3) (hL : L ≤ 96) (hnb : nb ≤ 4) (hv : vdep nb (lawC (V 25 0) t) L = some 1)
    (hp : ∀ s : NF, P (some (aI (lawV (V 25 0) t L (V 36 0)))) (ma V 35 0 s)) : Cl UM (d + 2) mX7_worksOut [aR 24 0, aI a] V P := by
  have G : ∀ q k, k + q = L → ∀ (p : Nat) (s : NF), vdep nb (lawC (V 25 0) t) k = some p → SR s (evL (lawC (V 25 0) t) (V 36 0) k) →
      Gq (Kp (d + 2) mX7_worksOut UM P) UM cX7_worksOut 6 RX7 21 [(0, aR 24 0), (1, aI (nI t)), (2, aI (nI p)), (3, aI (nI L)), (4, aI (nI k))] [] (ma V 35 0 s) := by
    intro q
    induction q with
    | zero =>
      intro k hk p s hvp hs
      have hk : k = L := by omega
      subst hk
      refine okX7_worksOut_21 (I21 := fun _ _ _ _ _ => False) _ _ _ _ _ (fun _ _ _ _ _ q => q.elim) ?_
      unfold wpX7_worksOut_21
      refine ⟨fun _ => ?_, fun c => absurd (nI_le (Nat.le_refl k) (by omega)) c⟩
      have e1 : s 0 = lawV (V 25 0) t k (V 36 0) := by
        have hlen := (evL_len (fa := V 36 0) k hv).1
        unfold lawV
        cases he : evL (lawC (V 25 0) t) (V 36 0) k with
        | nil => rw [he] at hlen; simp at hlen
        | cons x l =>
          rw [he] at hlen hs
          have hl0 : l.length = 0 := by simpa using hlen
          have := hs.pop.2
          rw [hl0] at this
          exact this
      rw [ma_same, e1]
      exact hp s
    | succ q ih =>
      intro k hk p s hvp hs
      obtain ⟨p', hvp'⟩ := vdep_pre (nb := nb) (c := lawC (V 25 0) t) q (k + 1) (p := 1) (by rw [show k + 1 + q = L by omega]; exact hv)
      have hok : okc nb (lawC (V 25 0) t k) p = some p' := by rw [vdep, hvp] at hvp'; exact hvp'
      have hlen := evL_len (fa := V 36 0) k hvp
      refine okX7_worksOut_21 (I21 := fun x1 x2 x3 x4 W => x1 = nI t ∧ x2 = nI p' ∧ x3 = nI L ∧ x4 = nI (k + 1) ∧ ∃ s', W = ma V 35 0 s' ∧ SR s' (evL (lawC (V 25 0) t) (V 36 0) (k + 1))) _ _ _ _ _ (fun x1 x2 x3 x4 W q => ?_) ?_
      · obtain ⟨rfl, rfl, rfl, rfl, s', rfl, hs'⟩ := q
        exact ih (k + 1) (by omega) p' s' hvp' hs'
      · unfold wpX7_worksOut_21
        refine ⟨fun c => absurd c (nI_ge (by omega) (by omega)), fun _ => ⟨135 + 96 * t + k, ?_, by omega, fun z ez => ?_⟩⟩
        · rw [show (135 : Int32) = nI 135 from rfl, show (96 : Int32) = nI 96 from rfl, pk_mul, nI_add, nI_add]
        rw [ma_o (by decide)] at ez
        have ez : z = lawC (V 25 0) t k := ez
        rw [evL, ← ez]
        rw [← ez] at hok
        unfold okc at hok
        generalize evL (lawC (V 25 0) t) (V 36 0) k = l at hs hlen ⊢
        refine ⟨fun c1 => ?_, fun c1 => ?_⟩
        · rw [if_pos c1] at hok
          unfold st1e
          rw [if_pos c1]
          refine ⟨fun c2 => ?_, fun c2 => ?_⟩
          · rw [if_neg c2] at hok ⊢
            by_cases h4 : -10 < z
            · rw [if_pos h4] at hok
              by_cases h3 : 2 ≤ p
              · rw [if_pos h3] at hok
                cases hok
                match l, hlen, hs with
                | [], hlen, _ => simp at hlen; omega
                | [x], hlen, _ => simp at hlen; omega
                | y :: x :: l, hlen, hs =>
                  have hpl : p = l.length + 2 := by simpa using hlen.1.symm
                  subst hpl
                  have s1 := hs.pop
                  have s2 := s1.1.pop
                  refine ⟨l.length, by rw [pk_m1, nI_pred], by omega, l.length + 1, pk_m1 (l.length + 1), by omega, ?_⟩
                  rw [ma_same]
                  refine r_two ⟨_, rfl, fun V7 e7 => ⟨rfl, pk_m1 (l.length + 1), rfl, nI_1 k, upd s l.length (tw z (s l.length) (s (l.length + 1))), ?_, ?_⟩⟩
                  · rw [e7, mu_ma]
                  · have a1 : s (l.length + 1) = y := by simpa using s1.2
                    rw [a1, s2.2]
                    exact s2.1.push _
              · rw [if_neg h3] at hok; cases hok
            · rw [if_neg h4] at hok; cases hok
          · rw [if_pos c2] at hok ⊢
            by_cases h3 : 1 ≤ p
            · rw [if_pos h3] at hok
              cases hok
              match l, hlen, hs with
              | [], hlen, _ => simp at hlen; omega
              | x :: l, hlen, hs =>
                have hpl : p = l.length + 1 := by simpa using hlen.1.symm
                subst hpl
                have s1 := hs.pop
                refine ⟨l.length, nI_pred l.length, by omega, fun c3 V1 e1 => ⟨rfl, rfl, rfl, nI_1 k, _, e1.trans (mu_ma _ _ _ _ _ _), ?_⟩, fun c3 V1 e1 => ⟨rfl, rfl, rfl, nI_1 k, _, e1.trans (mu_ma _ _ _ _ _ _), ?_⟩⟩
                · rw [ma_same, s1.2] at c3
                  show SR _ ((if x = 0 then 1 else 0) :: l)
                  rw [if_neg c3]
                  exact s1.1.push _
                · rw [ma_same, s1.2] at c3
                  show SR _ ((if x = 0 then 1 else 0) :: l)
                  rw [if_pos c3]
                  exact s1.1.push _
            · rw [if_neg h3] at hok; cases hok
        · rw [if_neg c1] at hok
          unfold st1e
          rw [if_neg c1]
          have hpl : p = l.length := hlen.1.symm
          subst hpl
          refine ⟨fun c2 => ?_, fun c2 => ?_⟩
          · rw [if_pos c2]
            rw [if_neg (fun q => by rw [ti_le] at c2; rw [ti_lt] at q; omega)] at hok
            by_cases h3 : z < nI (10000 + nb)
            · rw [if_pos h3] at hok
              cases hok
              obtain ⟨v, hv1, hv2⟩ := nI_of c1
              rw [hv2] at c2 h3 ⊢
              have g1 : 10000 ≤ v := (nI_leI (a := 10000) (by omega) hv1).mp c2
              have g2 : v < 10000 + nb := (nI_ltI hv1 (by omega)).mp h3
              have g3 : nI v - 10000 = nI (v - 10000) := pk_sub (b := 10000) g1
              refine ⟨v - 10000, g3, by omega, l.length, rfl, by omega, fun V1 e1 => ⟨rfl, nI_1 _, rfl, nI_1 k, _, e1.trans (mu_ma _ _ _ _ _ _), ?_⟩⟩
              rw [ma_o (by decide), g3, nI_clamp (by omega)]
              exact hs.push _
            · rw [if_neg h3] at hok; cases hok
          · rw [if_neg c2]
            rw [if_pos (by rw [ti_le] at c2; rw [ti_lt]; omega)] at hok
            cases hok
            exact ⟨l.length, rfl, by omega, fun V1 e1 => ⟨rfl, nI_1 _, rfl, nI_1 k, _, e1.trans (mu_ma _ _ _ _ _ _), hs.push _⟩⟩
  refine clX7_worksOut (I21 := fun x1 x2 x3 x4 W => x1 = nI t ∧ x2 = nI 0 ∧ x3 = nI L ∧ x4 = nI 0 ∧ W = V) a V (fun x1 x2 x3 x4 W q => ?_) ?_
  · obtain ⟨rfl, rfl, rfl, rfl, hW⟩ := q
    have := G L 0 (by omega) 0 (V 35 0) rfl (fun i a h => by simp [evL] at h)
    rw [ma_eta] at this
    rw [hW]
    exact this
  · unfold wpX7_worksOut_0
    refine ⟨107 + 2 * t, ?_, by omega, fun z ez => ⟨ea, rfl, ?_, rfl, rfl⟩⟩
    · rw [ea, show (107 : Int32) = nI 107 from rfl, show (2 : Int32) = nI 2 from rfl, pk_mul, nI_add]
    · rw [ez, hn]
      have := pk_rem (a := 1000 * key + L) (d := 1000) (by omega) (by decide) (by decide)
      rw [show (1000 * key + L) % 1000 = L by omega] at this
      exact this
end REF3
