/-! ===== the reference: an hour ===== -/
theorem gRain_o {n : NF} {r j : Nat} {x : Int32} (h1 : ¬ j = 63 + 6 * r) (h2 : ¬ j = 7) : gRain n r x j = n j := by
  unfold gRain; rw [up_n h2, up_n h1]
theorem gSnow_o {n : NF} {r j : Nat} {x : Int32} (h1 : ¬ j = 64 + 6 * r) (h2 : ¬ j = 4) : gSnow n r x j = n j := by
  unfold gSnow; rw [up_n h2, up_n h1]
def gFall1 (n : NF) (a f : Int32) (r : Nat) : NF := if 0 < a then gRain n r (f * n (60 + 6 * r)) else if a < 0 then gSnow n r (f * n (60 + 6 * r)) else upd n 6 (n 6 + f * n (60 + 6 * r))
def gFallL (n : NF) (a f : Int32) : Nat → NF
  | 0 => n
  | k + 1 => gFall1 (gFallL n a f k) a f k
def fallIx (a : Int32) : Nat := if 0 < a then 5 else if a < 0 then 4 else 6
def gFalls (n : NF) (a f : Int32) (m : Nat) : NF := upd (gFallL n a f m) (fallIx a) (gFallL n a f m (fallIx a) + 10 * f)
theorem gFall1_o {n : NF} {a f : Int32} {r j : Nat} (h0 : ¬ j = 4) (h1 : ¬ j = 6) (h2 : ¬ j = 7) (h3 : ¬ j = 63 + 6 * r) (h4 : ¬ j = 64 + 6 * r) : gFall1 n a f r j = n j := by
  unfold gFall1
  split
  · exact gRain_o h3 h2
  · split
    · exact gSnow_o h4 h0
    · exact up_n h1
theorem gFallL_o {n : NF} {a f : Int32} {j : Nat} (h0 : ¬ j = 4) (h1 : ¬ j = 6) (h2 : ¬ j = 7) (k : Nat) (h3 : ∀ r, r < k → ¬ j = 63 + 6 * r ∧ ¬ j = 64 + 6 * r) : gFallL n a f k j = n j := by
  induction k with
  | zero => rfl
  | succ k ih =>
    rw [gFallL, gFall1_o h0 h1 h2 (h3 k (by omega)).1 (h3 k (by omega)).2]
    exact ih (fun r hr => h3 r (by omega))
def gSlide1 (n : NF) (c : Int32) (m r : Nat) : NF × Int32 :=
  if gB n r < n (64 + 6 * r) then
    (if n (59 + 6 * r) = 3 ∧ r + 1 < m then gSnow (upd n (64 + 6 * r) 0) (r + 1) (n (64 + 6 * r)) else upd (upd n (64 + 6 * r) 0) 4 (n 4 + n (64 + 6 * r)), c + 1)
  else (n, c)
def gSlideL (n : NF) (m : Nat) : Nat → NF × Int32
  | 0 => (n, 0)
  | k + 1 => gSlide1 (gSlideL n m k).1 (gSlideL n m k).2 m k
theorem gSlide1_o {n : NF} {c : Int32} {m r j : Nat} (h0 : ¬ j = 4) (h3 : ¬ j = 64 + 6 * r) (h4 : r + 1 < m → ¬ j = 64 + 6 * (r + 1)) : (gSlide1 n c m r).1 j = n j := by
  unfold gSlide1
  split
  · split
    · next h => exact (gSnow_o (h4 h.2) h0).trans (up_n h3)
    · exact (up_n h0).trans (up_n h3)
  · rfl
theorem gSlideL_o {n : NF} {m j : Nat} (h0 : ¬ j = 4) (k : Nat) (hk : k ≤ m) (h3 : ∀ r, r < m → ¬ j = 64 + 6 * r) : (gSlideL n m k).1 j = n j := by
  induction k with
  | zero => rfl
  | succ k ih =>
    rw [gSlideL, gSlide1_o h0 (h3 k (by omega)) (fun q => h3 (k + 1) q)]
    exact ih (by omega)
section REF2
variable {d : Nat} {V : Mem} {P : Option AV → Mem → Prop}
theorem r_falls {m : Nat} {a f : Int32} (e : V 25 0 1 = nI m) (hm : m ≤ 8) (hp : P none (ma V 25 0 (gFalls (V 25 0) a f m))) : Cl UM (d + 3) mX7_falls [aR 24 0, aI a, aI f] V P := by
  have n1 : ∀ k, k ≤ m → gFallL (V 25 0) a f k 1 = nI m := fun k hk => by
    rw [gFallL_o (by omega) (by omega) (by omega) k (fun r hr => by omega)]; exact e
  have E : ∀ x3 : Int32, ∀ i : Nat, fallIx a = i → wpX7_falls_90 (Cl UM (d + 2)) (fun _ _ _ _ => False) a f x3 (nI i) (ma V 25 0 (gFallL (V 25 0) a f m)) P := by
    intro x3 i hi
    unfold wpX7_falls_90
    refine ⟨i, rfl, by unfold fallIx at hi; split at hi <;> (try split at hi) <;> omega, fun V1 e1 => ?_⟩
    rw [e1, ma_same, mu_ma]
    unfold gFalls at hp
    rw [hi] at hp
    exact hp
  have L : ∀ q k, k + q = m → Gq (Kp (d + 3) mX7_falls UM P) UM cX7_falls 5 RX7 2 [(0, aR 24 0), (1, aI a), (2, aI f), (3, aI (nI k))] [] (ma V 25 0 (gFallL (V 25 0) a f k)) := by
    intro q
    induction q with
    | zero =>
      intro k hk
      have hk : k = m := by omega
      subst hk
      refine okX7_falls_2 (I2 := fun _ _ _ _ => False) a f (nI k) _ (fun _ _ _ _ q => q.elim) ?_
      unfold wpX7_falls_2
      rw [ma_same, n1 k (Nat.le_refl k)]
      refine ⟨fun _ => ⟨fun c1 => ⟨fun c2 => E _ 6 ?_, fun c2 => E _ 4 ?_⟩, fun c1 => E _ 5 ?_⟩, fun c => absurd (nI_le (Nat.le_refl k) (by omega)) c⟩
      · unfold fallIx; rw [if_neg (by rw [ti_lt]; rw [ti_le] at c1; exact fun q => by omega), if_neg (by rw [ti_lt]; rw [ti_le] at c2; exact fun q => by omega)]
      · unfold fallIx; rw [if_neg (by rw [ti_lt]; rw [ti_le] at c1; exact fun q => by omega), if_pos (by rw [ti_lt]; rw [ti_le] at c2; omega)]
      · unfold fallIx; rw [if_pos (by rw [ti_lt]; rw [ti_le] at c1; omega)]
    | succ q ih =>
      intro k hk
      refine okX7_falls_2 (I2 := fun x1 x2 x3 W => x1 = a ∧ x2 = f ∧ x3 = nI (k + 1) ∧ W = ma V 25 0 (gFallL (V 25 0) a f (k + 1))) a f (nI k) _ (fun x1 x2 x3 W q => ?_) ?_
      · obtain ⟨rfl, rfl, rfl, rfl⟩ := q
        exact ih (k + 1) (by omega)
      · unfold wpX7_falls_2
        rw [ma_same, n1 k (by omega)]
        refine ⟨fun c => absurd c (nI_ge (by omega) (by omega)), fun _ => ?_⟩
        refine r_of (k := 1) rfl rfl (by omega) ⟨_, rfl, fun z ez => ?_⟩
        rw [ma_same, show 59 + 6 * k + 1 = 60 + 6 * k by omega] at ez
        refine ⟨fun c1 => ⟨fun c2 V1 e1 => ⟨rfl, rfl, nI_1 k, ?_⟩, fun c2 => ?_⟩, fun c1 => ?_⟩
        · rw [e1, ez, ma_same, mu_ma, gFallL, gFall1, if_neg (by rw [ti_lt]; rw [ti_le] at c1; exact fun q => by omega), if_neg (by rw [ti_lt]; rw [ti_le] at c2; exact fun q => by omega)]
        · refine r_snows rfl (by omega) ⟨rfl, rfl, rfl, nI_1 k, ?_⟩
          rw [ma_same, ma_ma, ez, gFallL, gFall1, if_neg (by rw [ti_lt]; rw [ti_le] at c1; exact fun q => by omega), if_pos (by rw [ti_lt]; rw [ti_le] at c2; omega)]
        · refine r_rains rfl (by omega) ⟨rfl, rfl, rfl, nI_1 k, ?_⟩
          rw [ma_same, ma_ma, ez, gFallL, gFall1, if_pos (by rw [ti_lt]; rw [ti_le] at c1; omega)]
  refine clX7_falls (I2 := fun x1 x2 x3 W => x1 = a ∧ x2 = f ∧ x3 = nI 0 ∧ W = V) a f V (fun x1 x2 x3 W q => ?_) ?_
  · obtain ⟨rfl, rfl, rfl, rfl⟩ := q
    have := L m 0 (by omega)
    rw [gFallL, ma_eta] at this
    exact this
  · exact ⟨rfl, rfl, rfl, rfl⟩
theorem r_slides {m : Nat} (e : V 25 0 1 = nI m) (hm : m ≤ 8) (hp : P (some (aI (gSlideL (V 25 0) m m).2)) (ma V 25 0 (gSlideL (V 25 0) m m).1)) : Cl UM (d + 3) mX7_slides [aR 24 0] V P := by
  have n1 : ∀ k, k ≤ m → (gSlideL (V 25 0) m k).1 1 = nI m := fun k hk => by
    rw [gSlideL_o (by omega) k hk (fun r hr => by omega)]; exact e
  have L : ∀ q k, k + q = m → Gq (Kp (d + 3) mX7_slides UM P) UM cX7_slides 4 RX7 4 [(0, aR 24 0), (1, aI (gSlideL (V 25 0) m k).2), (2, aI (nI k))] [] (ma V 25 0 (gSlideL (V 25 0) m k).1) := by
    intro q
    induction q with
    | zero =>
      intro k hk
      have hk : k = m := by omega
      subst hk
      refine okX7_slides_4 (I4 := fun _ _ _ => False) _ (nI k) _ (fun _ _ _ q => q.elim) ?_
      unfold wpX7_slides_4
      rw [ma_same, n1 k (Nat.le_refl k)]
      exact ⟨fun _ => hp, fun c => absurd (nI_le (Nat.le_refl k) (by omega)) c⟩
    | succ q ih =>
      intro k hk
      refine okX7_slides_4 (I4 := fun x1 x2 W => x1 = (gSlideL (V 25 0) m (k + 1)).2 ∧ x2 = nI (k + 1) ∧ W = ma V 25 0 (gSlideL (V 25 0) m (k + 1)).1) _ (nI k) _ (fun x1 x2 W q => ?_) ?_
      · obtain ⟨rfl, rfl, rfl⟩ := q
        exact ih (k + 1) (by omega)
      · unfold wpX7_slides_4
        rw [ma_same, n1 k (by omega)]
        refine ⟨fun c => absurd c (nI_ge (by omega) (by omega)), fun _ => ?_⟩
        generalize hg : gSlideL (V 25 0) m k = g
        have g1 : g.1 1 = nI m := by rw [← hg]; exact n1 k (by omega)
        rw [gSlideL, hg]
        have e5 : 59 + 6 * k + 5 = 64 + 6 * k := by omega
        have e0 : 59 + 6 * k + 0 = 59 + 6 * k := by omega
        refine r_of (k := 5) rfl rfl (by omega) ⟨_, rfl, ?_⟩
        refine r_bears rfl (by omega) ⟨_, rfl, ?_⟩
        rw [ma_same, e5]
        refine ⟨fun c => ⟨?_, nI_1 k, ?_⟩, fun c => ?_⟩
        · rw [gSlide1, if_neg (by rw [ti_lt]; rw [ti_le] at c; omega)]
        · rw [gSlide1, if_neg (by rw [ti_lt]; rw [ti_le] at c; omega)]
        · have hc : gB g.1 k < g.1 (64 + 6 * k) := by rw [ti_lt]; rw [ti_le] at c; omega
          refine r_put (k := 5) rfl rfl (by omega) ⟨rfl, ?_⟩
          refine r_of (k := 0) rfl rfl (by omega) ⟨_, rfl, ?_⟩
          dsimp only
          rw [ma_same, ma_same, ma_ma, e5, e0, up_n (show ¬ 59 + 6 * k = 64 + 6 * k by omega), up_n (show ¬ 1 = 64 + 6 * k by omega), g1]
          have E : ¬ (g.1 (59 + 6 * k) = 3 ∧ k + 1 < m) → wpX7_slides_73 (Cl UM (d + 2)) (fun x1 x2 W => x1 = (gSlide1 g.1 g.2 m k).2 ∧ x2 = nI (k + 1) ∧ W = ma V 25 0 (gSlide1 g.1 g.2 m k).1) (g.2 + 1) (nI k) (g.1 (64 + 6 * k)) (ma V 25 0 (upd g.1 (64 + 6 * k) 0)) P := by
            intro hn
            unfold wpX7_slides_73
            refine fun V1 e1 => ⟨?_, nI_1 k, ?_⟩
            · rw [gSlide1, if_pos hc]
            · rw [e1, ma_same, mu_ma, gSlide1, if_pos hc, if_neg hn, up_n (show ¬ 4 = 64 + 6 * k by omega)]
          refine ⟨fun c1 => E (fun q => c1 q.1), fun c1 => ⟨fun c2 => E (fun q => ?_), fun c2 => ?_⟩⟩
          · rw [nI_1] at c2
            exact absurd c2 (nI_ge q.2 (by omega))
          · have hlt : k + 1 < m := by
              rcases Nat.lt_or_ge (k + 1) m with q | q
              · exact q
              · exact absurd (by rw [nI_1]; exact nI_le q (by omega)) c2
            refine r_snows (r := k + 1) (nI_1 k) (by omega) ⟨rfl, ?_, nI_1 k, ?_⟩
            · rw [gSlide1, if_pos hc]
            · rw [ma_same, ma_ma, gSlide1, if_pos hc, if_pos ⟨c1, hlt⟩]
  refine clX7_slides (I4 := fun x1 x2 W => x1 = 0 ∧ x2 = nI 0 ∧ W = V) V (fun x1 x2 W q => ?_) ?_
  · obtain ⟨rfl, rfl, rfl⟩ := q
    have := L m 0 (by omega)
    rw [gSlideL, ma_eta] at this
    exact this
  · exact ⟨rfl, rfl, rfl⟩
end REF2
