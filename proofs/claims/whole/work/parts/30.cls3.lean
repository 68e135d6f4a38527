/-! ===== the class: laws ===== -/
def sgn (c : Int32) : Int32 := if c = -1 then 124 else if c = -2 then 38 else if c = -3 then 60 else if c = -4 then 61 else if c = -5 then 62 else if c = -6 then 43 else if c = -7 then 45 else if c = -8 then 42 else if c = -9 then 47 else 33
def trc (c : Int32) : Int32 := if c < 0 then 20000 + sgn c else c
def LW (V : Mem) (n : NF) (T : Nat) : Prop := ∀ t, t < T → V 9 0 t = nI (lawL n t) ∧ V 7 0 t = n (107 + 2 * t) / 1000 ∧ V 8 0 t = n (108 + 2 * t) ∧ ∀ k, k < lawL n t → V 11 t k = trc (n (135 + 96 * t + k))
def CW (V : Mem) (w : Nat) (n : NF) (T : Nat) : Prop := ∀ k, k < 3 → V 16 w k = if gCt n (nI k) T < 0 then -1000000005 else gCt n (nI k) T
theorem neg_cases {c : Int32} (h1 : c < 0) (h2 : -10 < c) : c = -1 ∨ c = -2 ∨ c = -3 ∨ c = -4 ∨ c = -5 ∨ c = -6 ∨ c = -7 ∨ c = -8 ∨ c = -9 := by
  rw [ti_lt, ti0] at h1
  rw [ti_lt, show (-10 : Int32).toInt = -10 from rfl] at h2
  have : c.toInt = -1 ∨ c.toInt = -2 ∨ c.toInt = -3 ∨ c.toInt = -4 ∨ c.toInt = -5 ∨ c.toInt = -6 ∨ c.toInt = -7 ∨ c.toInt = -8 ∨ c.toInt = -9 := by omega
  rcases this with q | q | q | q | q | q | q | q | q
  · exact Or.inl (ti_eq.mpr q)
  · exact Or.inr (Or.inl (ti_eq.mpr q))
  · exact Or.inr (Or.inr (Or.inl (ti_eq.mpr q)))
  · exact Or.inr (Or.inr (Or.inr (Or.inl (ti_eq.mpr q))))
  · exact Or.inr (Or.inr (Or.inr (Or.inr (Or.inl (ti_eq.mpr q)))))
  · exact Or.inr (Or.inr (Or.inr (Or.inr (Or.inr (Or.inl (ti_eq.mpr q))))))
  · exact Or.inr (Or.inr (Or.inr (Or.inr (Or.inr (Or.inr (Or.inl (ti_eq.mpr q)))))))
  · exact Or.inr (Or.inr (Or.inr (Or.inr (Or.inr (Or.inr (Or.inr (Or.inl (ti_eq.mpr q))))))))
  · exact Or.inr (Or.inr (Or.inr (Or.inr (Or.inr (Or.inr (Or.inr (Or.inr (ti_eq.mpr q))))))))
section CLS3
variable {d : Nat} {V : Mem} {P : Option AV → Mem → Prop}
theorem x_joined {c g a b : Int32} (h1 : c < 0) (h2 : -10 < c) (hg : g = sgn c) (hp : P (some (aI (tw c a b))) V) : Cl UX (d + 1) mX0_joined [aI g, aI a, aI b] V P := by
  refine clX0_joined g a b V ?_
  unfold wpX0_joined_0
  subst hg
  rcases neg_cases h1 h2 with e | e | e | e | e | e | e | e | e
  · subst e
    have e : tw (-1) a b = if a = 0 then (if b = 0 then 0 else 1) else 1 := rfl
    rw [e] at hp
    refine ⟨fun q => absurd q (by decide), fun q => absurd q (by decide), fun q => absurd q (by decide), fun q => absurd q (by decide), fun q => absurd q (by decide), fun q => absurd q (by decide), fun q => absurd q (by decide), fun q => absurd q (by decide), fun _ => ⟨fun c1 => ?_, fun c1 => ⟨fun c2 => ?_, fun c2 => ?_⟩⟩⟩
    · rw [if_neg c1] at hp; exact hp
    · rw [if_pos c1, if_pos c2] at hp; exact hp
    · rw [if_pos c1, if_neg c2] at hp; exact hp
  · subst e
    have e : tw (-2) a b = if a = 0 then 0 else if b = 0 then 0 else 1 := rfl
    rw [e] at hp
    refine ⟨fun _ => ⟨fun c1 => ?_, fun c1 => ⟨fun c2 => ?_, fun c2 => ?_⟩⟩, fun q => absurd q (by decide), fun q => absurd q (by decide), fun q => absurd q (by decide), fun q => absurd q (by decide), fun q => absurd q (by decide), fun q => absurd q (by decide), fun q => absurd q (by decide), fun q => absurd rfl q.1⟩
    · rw [if_pos c1] at hp; exact hp
    · rw [if_neg c1, if_pos c2] at hp; exact hp
    · rw [if_neg c1, if_neg c2] at hp; exact hp
  · subst e
    have e : tw (-3) a b = if b ≤ a then 0 else 1 := rfl
    rw [e] at hp
    refine ⟨fun q => absurd q (by decide), fun q => absurd q (by decide), fun q => absurd q (by decide), fun q => absurd q (by decide), fun q => absurd q (by decide), fun _ => ⟨fun c1 => ?_, fun c1 => ?_⟩, fun q => absurd q (by decide), fun q => absurd q (by decide), fun q => absurd rfl q.2.2.2.2.2.1⟩
    · rw [if_pos c1] at hp; exact hp
    · rw [if_neg c1] at hp; exact hp
  · subst e
    have e : tw (-4) a b = if a = b then 1 else 0 := rfl
    rw [e] at hp
    refine ⟨fun q => absurd q (by decide), fun q => absurd q (by decide), fun q => absurd q (by decide), fun q => absurd q (by decide), fun q => absurd q (by decide), fun q => absurd q (by decide), fun _ => ⟨fun c1 => ?_, fun c1 => ?_⟩, fun q => absurd q (by decide), fun q => absurd rfl q.2.2.2.2.2.2.1⟩
    · rw [if_neg c1] at hp; exact hp
    · rw [if_pos c1] at hp; exact hp
  · subst e
    have e : tw (-5) a b = if a ≤ b then 0 else 1 := rfl
    rw [e] at hp
    refine ⟨fun q => absurd q (by decide), fun q => absurd q (by decide), fun q => absurd q (by decide), fun q => absurd q (by decide), fun q => absurd q (by decide), fun q => absurd q (by decide), fun q => absurd q (by decide), fun _ => ⟨fun c1 => ?_, fun c1 => ?_⟩, fun q => absurd rfl q.2.2.2.2.2.2.2⟩
    · rw [if_pos c1] at hp; exact hp
    · rw [if_neg c1] at hp; exact hp
  · subst e
    exact ⟨fun q => absurd q (by decide), fun q => absurd q (by decide), fun _ => hp, fun q => absurd q (by decide), fun q => absurd q (by decide), fun q => absurd q (by decide), fun q => absurd q (by decide), fun q => absurd q (by decide), fun q => absurd rfl q.2.2.1⟩
  · subst e
    exact ⟨fun q => absurd q (by decide), fun q => absurd q (by decide), fun q => absurd q (by decide), fun _ => hp, fun q => absurd q (by decide), fun q => absurd q (by decide), fun q => absurd q (by decide), fun q => absurd q (by decide), fun q => absurd rfl q.2.2.2.1⟩
  · subst e
    exact ⟨fun q => absurd q (by decide), fun _ => hp, fun q => absurd q (by decide), fun q => absurd q (by decide), fun q => absurd q (by decide), fun q => absurd q (by decide), fun q => absurd q (by decide), fun q => absurd q (by decide), fun q => absurd rfl q.2.1⟩
  · subst e
    have e : tw (-9) a b = if b = 0 then 0 else a / b := rfl
    rw [e] at hp
    refine ⟨fun q => absurd q (by decide), fun q => absurd q (by decide), fun q => absurd q (by decide), fun q => absurd q (by decide), fun _ => ⟨fun c1 => ⟨c1, ?_⟩, fun c1 => ?_⟩, fun q => absurd q (by decide), fun q => absurd q (by decide), fun q => absurd q (by decide), fun q => absurd rfl q.2.2.2.2.1⟩
    · rw [if_neg c1] at hp; exact hp
    · rw [if_pos c1] at hp; exact hp
theorem sgn_big {c : Int32} (h1 : c < 0) (h2 : -10 < c) : 20000 ≤ 20000 + sgn c ∧ ¬ 20000 + sgn c = 20033 ∧ 20000 + sgn c - 20000 = sgn c := by
  rcases neg_cases h1 h2 with e | e | e | e | e | e | e | e | e <;> (subst e; decide)
theorem x_give {t T nb : Nat} {n : NF} {z a b c : Int32} (ez : z = nI t) (ht : t < T) (hT : T ≤ 14) (hL : LW V n T) (hl : lawL n t ≤ 96) (hnb : nb ≤ 3) (hv : vdep nb (lawC n t) (lawL n t) = some 1)
    (hp : ∀ s : NF, P (some (aI (lawV n t (lawL n t) (f3 a b c)))) (ma V 12 0 s)) : Cl UX (d + 2) mX0_give [aR 1 0, aI z, aI a, aI b, aI c] V P := by
  obtain ⟨l1, -, -, l4⟩ := hL t ht
  have G : ∀ q k, k + q = lawL n t → ∀ (p : Nat) (s : NF), vdep nb (lawC n t) k = some p → SR s (evL (lawC n t) (f3 a b c) k) →
      Gq (Kp (d + 2) mX0_give UX P) UX cX0_give 8 RX0 6 [(0, aR 1 0), (1, aI (nI t)), (2, aI a), (3, aI b), (4, aI c), (5, aI (nI p)), (6, aI (nI k))] [] (ma V 12 0 s) := by
    intro q
    induction q with
    | zero =>
      intro k hk p s hvp hs
      have hk : k = lawL n t := by omega
      refine okX0_give_6 (I6 := fun _ _ _ _ _ _ _ => False) _ _ _ _ _ _ _ (fun _ _ _ _ _ _ _ q => q.elim) ?_
      unfold wpX0_give_6
      refine ⟨t, rfl, by omega, fun _ => ?_, fun c => absurd (by rw [ma_o (by decide), l1]; exact nI_le (by omega) (by omega)) c⟩
      have e1 : s 0 = lawV n t (lawL n t) (f3 a b c) := by
        rw [hk] at hs
        have hlen := (evL_len (fa := f3 a b c) _ hv).1
        unfold lawV
        cases he : evL (lawC n t) (f3 a b c) (lawL n t) with
        | nil => rw [he] at hlen; simp at hlen
        | cons x l =>
          rw [he] at hlen hs
          have hl0 : l.length = 0 := by simpa using hlen
          have := hs.pop.2
          rw [hl0] at this
          exact this
      rw [ma_same, e1]
      exact hp s
    | succ q ih =>
      intro k hk p s hvp hs
      obtain ⟨p', hvp'⟩ := vdep_pre (nb := nb) (c := lawC n t) q (k + 1) (p := 1) (by rw [show k + 1 + q = lawL n t by omega]; exact hv)
      have hok : okc nb (lawC n t k) p = some p' := by rw [vdep, hvp] at hvp'; exact hvp'
      have hlen := evL_len (fa := f3 a b c) k hvp
      refine okX0_give_6 (I6 := fun x1 x2 x3 x4 x5 x6 W => x1 = nI t ∧ x2 = a ∧ x3 = b ∧ x4 = c ∧ x5 = nI p' ∧ x6 = nI (k + 1) ∧ ∃ s', W = ma V 12 0 s' ∧ SR s' (evL (lawC n t) (f3 a b c) (k + 1))) _ _ _ _ _ _ _ (fun x1 x2 x3 x4 x5 x6 W q => ?_) ?_
      · obtain ⟨rfl, rfl, rfl, rfl, rfl, rfl, s', rfl, hs'⟩ := q
        exact ih (k + 1) (by omega) p' s' hvp' hs'
      · unfold wpX0_give_6
        refine ⟨t, rfl, by omega, fun c => absurd (by rw [ma_o (by decide), l1] at c; exact c) (nI_ge (by omega) (by omega)), fun _ => ⟨k, rfl, by omega, fun z ez => ?_⟩⟩
        rw [ma_o (by decide), l4 k (by omega)] at ez
        have ez : z = trc (lawC n t k) := ez
        rw [evL]
        generalize lawC n t k = y at hok ez ⊢
        unfold okc at hok
        generalize evL (lawC n t) (f3 a b c) k = l at hs hlen ⊢
        by_cases c1 : y < 0
        · rw [if_pos c1] at hok
          unfold st1e
          rw [if_pos c1]
          by_cases c2 : y = -10
          · rw [if_pos c2] at hok ⊢
            have ez : z = 20033 := by rw [ez, c2]; rfl
            subst ez
            by_cases h3 : 1 ≤ p
            · rw [if_pos h3] at hok
              cases hok
              match l, hlen, hs with
              | [], hlen, _ => simp at hlen; omega
              | x :: l, hlen, hs =>
                have hpl : p = l.length + 1 := by simpa using hlen.1.symm
                subst hpl
                have s1 := hs.pop
                refine ⟨fun _ => ?_, fun q => absurd (by decide) q⟩
                unfold wpX0_give_95
                refine ⟨fun q => absurd rfl q, fun _ => ⟨fun q => absurd q (nI_ge (a := 0) (by omega) (by omega)), fun _ => ⟨l.length, nI_pred l.length, by omega, fun c3 V1 e1 => ⟨rfl, rfl, rfl, rfl, rfl, nI_1 k, _, e1.trans (mu_ma _ _ _ _ _ _), ?_⟩, fun c3 V1 e1 => ⟨rfl, rfl, rfl, rfl, rfl, nI_1 k, _, e1.trans (mu_ma _ _ _ _ _ _), ?_⟩⟩⟩⟩
                · rw [ma_same, s1.2] at c3
                  show SR _ ((if x = 0 then 1 else 0) :: l)
                  rw [if_neg c3]
                  exact s1.1.push _
                · rw [ma_same, s1.2] at c3
                  show SR _ ((if x = 0 then 1 else 0) :: l)
                  rw [if_pos c3]
                  exact s1.1.push _
            · rw [if_neg h3] at hok; cases hok
          · rw [if_neg c2] at hok ⊢
            by_cases h4 : -10 < y
            · rw [if_pos h4] at hok
              have hb := sgn_big c1 h4
              have ez : z = 20000 + sgn y := by rw [ez, trc, if_pos c1]
              subst ez
              by_cases h3 : 2 ≤ p
              · rw [if_pos h3] at hok
                cases hok
                match l, hlen, hs with
                | [], hlen, _ => simp at hlen; omega
                | [x], hlen, _ => simp at hlen; omega
                | v :: x :: l, hlen, hs =>
                  have hpl : p = l.length + 2 := by simpa using hlen.1.symm
                  subst hpl
                  have s1 := hs.pop
                  have s2 := s1.1.pop
                  refine ⟨fun _ => ?_, fun q => absurd hb.1 q⟩
                  unfold wpX0_give_95
                  refine ⟨fun _ => ?_, fun q => absurd q hb.2.1⟩
                  unfold wpX0_give_137
                  refine ⟨fun q => absurd q (nI_ge (a := 1) (by omega) (by omega)), fun _ => ⟨l.length, by rw [pk_m1, nI_pred], by omega, l.length + 1, pk_m1 (l.length + 1), by omega, ?_⟩⟩
                  rw [ma_same]
                  refine x_joined c1 h4 hb.2.2 ⟨_, rfl, fun V7 e7 => ⟨rfl, rfl, rfl, rfl, pk_m1 (l.length + 1), nI_1 k, upd s l.length (tw y (s l.length) (s (l.length + 1))), ?_, ?_⟩⟩
                  · rw [e7, mu_ma]
                  · have a1 : s (l.length + 1) = v := by simpa using s1.2
                    rw [a1, s2.2]
                    exact s2.1.push _
              · rw [if_neg h3] at hok; cases hok
            · rw [if_neg h4] at hok; cases hok
        · rw [if_neg c1] at hok
          have ez : z = y := by rw [ez, trc, if_neg c1]
          subst ez
          unfold st1e
          rw [if_neg c1]
          have hpl : p = l.length := hlen.1.symm
          subst hpl
          obtain ⟨v, hv1, hv2⟩ := nI_of c1
          by_cases c2 : 10000 ≤ z
          · rw [if_pos c2]
            rw [if_neg (fun q => by rw [ti_le] at c2; rw [ti_lt] at q; omega)] at hok
            by_cases h3 : z < nI (10000 + nb)
            · rw [if_pos h3] at hok
              cases hok
              have g1 : 10000 ≤ v := (nI_leI (a := 10000) (by omega) hv1).mp (by rw [← hv2]; exact c2)
              have g2 : v < 10000 + nb := (nI_ltI hv1 (by omega)).mp (by rw [← hv2]; exact h3)
              have g3 : z - 10000 = nI (v - 10000) := by rw [hv2]; exact pk_sub (b := 10000) g1
              rw [g3, nI_clamp (by omega)]
              have hlt : ¬ 20000 ≤ z := by rw [hv2]; exact nI_ge (b := 20000) (by omega) (by omega)
              refine ⟨fun q => absurd q hlt, fun _ => ⟨fun q => absurd q (nI_ge (b := 96) (by omega) (by omega)), fun _ => ⟨fun _ => ⟨fun c3 => ⟨fun c4 => ?_, fun c4 => ?_⟩, fun c3 => ?_⟩, fun q => absurd c2 q⟩⟩⟩
              · have hv12 : v = 10002 := by
                  have : ¬ v = 10000 := fun q => c3 (by rw [hv2, q]; rfl)
                  have : ¬ v = 10001 := fun q => c4 (by rw [hv2, q]; rfl)
                  omega
                refine ⟨l.length, rfl, by omega, fun V1 e1 => ⟨rfl, rfl, rfl, rfl, nI_1 _, nI_1 k, _, e1.trans (mu_ma _ _ _ _ _ _), ?_⟩⟩
                rw [hv12]
                exact hs.push _
              · have hv11 : v = 10001 := (nI_eq (b := 10001) hv1 (by omega)).mp (by rw [← hv2]; exact c4)
                refine ⟨l.length, rfl, by omega, fun V1 e1 => ⟨rfl, rfl, rfl, rfl, nI_1 _, nI_1 k, _, e1.trans (mu_ma _ _ _ _ _ _), ?_⟩⟩
                rw [hv11]
                exact hs.push _
              · have hv10 : v = 10000 := (nI_eq (b := 10000) hv1 (by omega)).mp (by rw [← hv2]; exact c3)
                refine ⟨l.length, rfl, by omega, fun V1 e1 => ⟨rfl, rfl, rfl, rfl, nI_1 _, nI_1 k, _, e1.trans (mu_ma _ _ _ _ _ _), ?_⟩⟩
                rw [hv10]
                exact hs.push _
            · rw [if_neg h3] at hok; cases hok
          · rw [if_neg c2]
            rw [if_pos (by rw [ti_le] at c2; rw [ti_lt]; omega)] at hok
            cases hok
            have hlt : ¬ 20000 ≤ z := fun q => c2 (by rw [ti_le] at q ⊢; rw [show (20000 : Int32).toInt = 20000 from rfl] at q; rw [show (10000 : Int32).toInt = 10000 from rfl]; omega)
            exact ⟨fun q => absurd q hlt, fun _ => ⟨fun q => absurd q (nI_ge (b := 96) (by omega) (by omega)), fun _ => ⟨fun q => absurd q c2, fun _ => ⟨l.length, rfl, by omega, fun V1 e1 => ⟨rfl, rfl, rfl, rfl, nI_1 _, nI_1 k, _, e1.trans (mu_ma _ _ _ _ _ _), hs.push _⟩⟩⟩⟩⟩
  refine clX0_give (I6 := fun x1 x2 x3 x4 x5 x6 W => x1 = nI t ∧ x2 = a ∧ x3 = b ∧ x4 = c ∧ x5 = nI 0 ∧ x6 = nI 0 ∧ W = V) z a b c V (fun x1 x2 x3 x4 x5 x6 W q => ?_) ⟨ez, rfl, rfl, rfl, rfl, rfl, rfl⟩
  obtain ⟨rfl, rfl, rfl, rfl, rfl, rfl, hW⟩ := q
  have := G (lawL n t) 0 (by omega) 0 (V 12 0) rfl (fun i a h => by simp [evL] at h)
  rw [ma_eta] at this
  rw [hW]
  exact this
end CLS3
