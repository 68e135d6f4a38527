/-! ===== the calls, side by side: lay ===== -/
section OPS20
variable {d D : Nat} {V W X M X1 M1 : Mem} {P : Option AV → Mem → Prop} {w v m h T i j k r t u q m1 h1 s p z1 z2 : Nat} {n n1 : NF} {a b c x y z kk ss : Int32} {B B1 : Int}
theorem x_shbecome (hs : s < 9) (ht : t < 9) (hne : ¬ t = s) (hp : ∀ V1, (∀ r i, ¬ (r = 4 ∧ i = s) → ¬ (r = 23 ∧ i = s) → V1 r i = V r i) → V1 4 s 0 = V 4 t 0 → V1 4 s 1 = V 4 t 1 → (∀ j, j < 24 → V1 23 s j = V 23 t j) → P none V1) : Cl UX (d + 1) mX3_become [aR 4 s, aR 4 t] V P := by
  refine clX3_become s t hs ht V ?_
  unfold wpX3_become_0
  intro V1 e1 V2 e2
  refine ⟨0, 0, 24, rfl, rfl, rfl, by omega, by omega, fun V6 e6 => hp V6 (fun r i a b => ?_) ?_ ?_ (fun j hj => ?_)⟩
  · rw [e6, ma_ne b, e2, mu_eq, ma_ne a, e1, mu_eq, ma_ne a]
  · rw [e6, ma_o (by decide), e2, mu_sn (by omega), e1, mu_sk]
  · rw [e6, ma_o (by decide), e2, mu_sk, e1, mu_i hne]
  · rw [e6, ma_same, pk_cpy_in (by omega) (by omega), e2, mu_o (by decide), e1, mu_o (by decide)]
    exact congrArg (V 23 t) (by omega)
/-- one slot changes -/
theorem GR.sl (hN : NowR X M m T h) (hR : Rst X M T) (hs : s < 5) (hX : ∀ r i, ¬ (r = 5 ∧ i = s) → ¬ (r = 3 ∧ i = 24 + s) → ¬ (r = 4 ∧ i = 4 + s) → ¬ (r = 23 ∧ i = 4 + s) → X1 r i = X r i) (hM : ∀ r, ¬ r = 40 → ¬ r = 41 → ¬ r = 42 → ¬ r = 43 → M1 r 0 = M r 0) (h40 : ∀ t, ¬ t = s → M1 40 0 t = M 40 0 t) (h41 : ∀ t, ¬ t = s → M1 41 0 t = M 41 0 t) (h42 : ∀ t, ¬ t = s → M1 42 0 t = M 42 0 t) (h43 : ∀ p, ¬ (24 * s ≤ p ∧ p < 24 * s + 24) → M1 43 0 p = M 43 0 p) (hS : SlR X1 M1 s) : GR X1 M1 := by
  have x0 : X1 0 0 = X 0 0 := hX 0 0 (by omega) (by omega) (by omega) (by omega)
  have hM' : ∀ r, r < 40 ∨ 43 < r → M1 r 0 = M r 0 := fun r q => hM r (by omega) (by omega) (by omega) (by omega)
  have m24 : M1 24 0 = M 24 0 := hM' 24 (by omega)
  refine GR.any hN hR (fun r i q => hX r i (by omega) (by omega) (by omega) (by omega)) (fun i hi => hX 3 i (by omega) (by omega) (by omega) (by omega)) (by rw [x0]) (hM' 25 (by omega)) (hM' 26 (by omega)) (by rw [m24]) (hM' 30 (by omega)) (hM' 31 (by omega)) (fun t ht => ?_) (fun t ht => ?_) ?_ ?_
  · exact (hR.2.1 t ht).eq (hX 4 t (by omega) (by omega) (by omega) (by omega)) (hX 23 t (by omega) (by omega) (by omega) (by omega)) (by rw [hM' 37 (by omega)]) (by rw [hM' 38 (by omega)]) (fun k hk => by rw [hM' 39 (by omega)])
  · by_cases e : t = s
    · rw [e]; exact hS
    · exact (hR.2.2.1 t ht).eq (hX 5 t (by omega) (by omega) (by omega) (by omega)) (hX 3 _ (by omega) (by omega) (by omega) (by omega)) (hX 4 _ (by omega) (by omega) (by omega) (by omega)) (hX 23 _ (by omega) (by omega) (by omega) (by omega)) (h40 t e) (h41 t e) (h42 t e) (fun k hk => h43 _ (by omega))
  · exact hR.2.2.2.1.eq (by rw [x0]) (by rw [m24]) (hX 17 0 (by omega) (by omega) (by omega) (by omega)) (hM' 29 (by omega))
  · exact hR.2.2.2.2.1.eq (by rw [x0]) (by rw [m24]) (hX 21 0 (by omega) (by omega) (by omega) (by omega)) (hM' 45 (by omega))
theorem r_lay134 (ea : a = nI s) (hs : s < 5) (h2 : b = 2 → c = nI j ∧ j < 4) (hp : ∀ M1, (∀ r, ¬ r = 43 → M1 r 0 = V r 0) → (∀ p, ¬ (24 * s ≤ p ∧ p < 24 * s + 24) → M1 43 0 p = V 43 0 p) → (b = 2 → ∀ i, i < 24 → M1 43 0 (24 * s + i) = V 39 0 (24 * j + i)) → P (some (aI x)) M1) : Gq (Kp (d + 1) mX7_lay UM P) UM cX7_lay 6 RX7 134 [(0, aR 24 0), (1, aI a), (2, aI b), (3, aI c), (4, aI x), (5, aI (nI 0))] [] V := by
  by_cases b2 : b = 2
  · obtain ⟨ec, hj⟩ := h2 b2
    have L : ∀ q i, i + q = 24 → ∀ V1, (∀ r, ¬ r = 43 → V1 r 0 = V r 0) → (∀ p, ¬ (24 * s ≤ p ∧ p < 24 * s + 24) → V1 43 0 p = V 43 0 p) → (∀ i0, i0 < i → V1 43 0 (24 * s + i0) = V 39 0 (24 * j + i0)) → Gq (Kp (d + 1) mX7_lay UM P) UM cX7_lay 6 RX7 134 [(0, aR 24 0), (1, aI a), (2, aI b), (3, aI c), (4, aI x), (5, aI (nI i))] [] V1 := by
      intro q
      induction q with
      | zero =>
        intro i hi V1 a1 a2 a3
        have hi : i = 24 := by omega
        subst hi
        refine okX7_lay_134 (I134 := fun _ _ _ _ _ _ => False) a b c x _ V1 (fun _ _ _ _ _ _ q => q.elim) ?_
        unfold wpX7_lay_134
        exact ⟨fun _ => hp V1 a1 a2 (fun _ => a3), fun c => absurd (by decide) c⟩
      | succ q ih =>
        intro i hi V1 a1 a2 a3
        refine okX7_lay_134 (I134 := fun x1 x2 x3 x4 x5 W => x1 = a ∧ x2 = b ∧ x3 = c ∧ x4 = x ∧ x5 = nI (i + 1) ∧ (∀ r, ¬ r = 43 → W r 0 = V r 0) ∧ (∀ p, ¬ (24 * s ≤ p ∧ p < 24 * s + 24) → W 43 0 p = V 43 0 p) ∧ (∀ i0, i0 < i + 1 → W 43 0 (24 * s + i0) = V 39 0 (24 * j + i0))) a b c x _ V1 (fun x1 x2 x3 x4 x5 W z => ?_) ?_
        · obtain ⟨rfl, rfl, rfl, rfl, rfl, b1, b2, b3⟩ := z
          exact ih (i + 1) (by omega) W b1 b2 b3
        · unfold wpX7_lay_134
          refine ⟨fun c => absurd c (nI_ge (b := 24) (by omega) (by omega)), fun _ => ⟨fun c => absurd b2 c, fun _ => ⟨24 * j + i, ?_, by omega, 24 * s + i, ?_, by omega, fun V3 e3 => ⟨rfl, rfl, rfl, rfl, nI_1 i, fun r c1 => ?_, fun p hp => ?_, fun i0 hi0 => ?_⟩⟩⟩⟩
          · rw [ec, show (24 : Int32) = nI 24 from rfl, pk_mul, nI_add]
          · rw [ea, show (24 : Int32) = nI 24 from rfl, pk_mul, nI_add]
          · rw [e3, mu_o c1, a1 r c1]
          · rw [e3, mu_sn (by omega), a2 p hp]
          · by_cases e : i0 = i
            · rw [e, e3, mu_sk, a1 39 (by decide)]
            · rw [e3, mu_sn (by omega), a3 i0 (by omega)]
    exact L 24 0 (by omega) V (fun _ _ => rfl) (fun _ _ => rfl) (fun i h => absurd h (by omega))
  · refine okX7_lay_134 (I134 := fun _ _ _ _ _ _ => False) a b c x _ V (fun _ _ _ _ _ _ q => q.elim) ?_
    unfold wpX7_lay_134
    exact ⟨fun c => absurd c (by decide), fun _ => ⟨fun _ => hp V (fun _ _ => rfl) (fun _ _ => rfl) (fun c => absurd c b2), fun c => absurd c b2⟩⟩
/-- what the reference's lay leaves -/
def LyR (M M1 : Mem) (s m : Nat) (b c : Int32) : Prop := (∀ r, ¬ r = 40 → ¬ r = 41 → ¬ r = 42 → ¬ r = 43 → M1 r 0 = M r 0) ∧ M1 40 0 = upd (M 40 0) s b ∧ (∀ t, ¬ t = s → M1 41 0 t = M 41 0 t) ∧ (∀ t, ¬ t = s → M1 42 0 t = M 42 0 t) ∧ (∀ p, ¬ (24 * s ≤ p ∧ p < 24 * s + 24) → M1 43 0 p = M 43 0 p) ∧
  (∀ j, b = 1 → c = nI j → j < m → M1 41 0 s = M 25 0 (59 + 6 * j) ∧ M1 42 0 s = wrt (M 25 0 (59 + 6 * j)) (M 25 0 (60 + 6 * j))) ∧ (∀ j, b = 2 → c = nI j → j < 4 → M1 41 0 s = M 38 0 j ∧ ∀ i, i < 24 → M1 43 0 (24 * s + i) = M 39 0 (24 * j + i)) ∧ (b = 3 → M1 41 0 s = c)
theorem r_lay (ea : a = nI s) (hs : s < 5) (hb : 0 ≤ b ∧ b ≤ 3) (eM : M 25 0 1 = nI m) (hm : m ≤ 8) (h1 : b = 1 → ∃ j, c = nI j ∧ j < m) (h2 : b = 2 → ∃ j, c = nI j ∧ j < 4 ∧ 0 ≤ M 37 0 j) (hp : ∀ M1, LyR M M1 s m b c → P (some (aI (M 40 0 s))) M1) : Cl UM (d + 4) mX7_lay [aR 24 0, aI a, aI b, aI c] M P := by
  have hc : 0 ≤ a ∧ a ≤ 4 := by rw [ea]; exact ⟨nI_le (a := 0) (by omega) (by omega), nI_le (b := 4) (by omega) (by omega)⟩
  refine clX7_lay (I134 := fun x1 x2 x3 x4 x5 W => x1 = a ∧ x2 = b ∧ x3 = c ∧ x4 = M 40 0 s ∧ x5 = nI 0 ∧ (∀ r, ¬ r = 40 → ¬ r = 41 → ¬ r = 42 → W r 0 = M r 0) ∧ W 40 0 = upd (M 40 0) s b ∧ (∀ t, ¬ t = s → W 41 0 t = M 41 0 t) ∧ (∀ t, ¬ t = s → W 42 0 t = M 42 0 t) ∧ (∀ j, b = 1 → c = nI j → j < m → W 41 0 s = M 25 0 (59 + 6 * j) ∧ W 42 0 s = wrt (M 25 0 (59 + 6 * j)) (M 25 0 (60 + 6 * j))) ∧ (∀ j, b = 2 → c = nI j → j < 4 → W 41 0 s = M 38 0 j) ∧ (b = 3 → W 41 0 s = c)) a b c M (fun x1 x2 x3 x4 x5 W z => ?_) ?_
  · obtain ⟨rfl, rfl, rfl, rfl, rfl, b1, b2, b3, b4, b5, b6, b7⟩ := z
    by_cases c2 : x2 = 2
    · obtain ⟨j, ec, hj, -⟩ := h2 c2
      refine r_lay134 ea hs (j := j) (fun _ => ⟨ec, hj⟩) (fun M1 d1 d2 d3 => hp M1 ⟨fun r e1 e2 e3 e4 => ?_, ?_, fun t ht => ?_, fun t ht => ?_, fun p hp => ?_, fun j c => ?_, fun j' _ e1 e2 => ?_, fun c => ?_⟩)
      · rw [d1 r e4, b1 r e1 e2 e3]
      · rw [d1 40 (by decide), b2]
      · rw [d1 41 (by decide), b3 t ht]
      · rw [d1 42 (by decide), b4 t ht]
      · rw [d2 p hp, b1 43 (by decide) (by decide) (by decide)]
      · exact absurd (c2.symm.trans c) (by decide)
      · have : j' = j := (nI_eq (by omega) (by omega)).mp (e1.symm.trans ec)
        subst this
        refine ⟨by rw [d1 41 (by decide), b6 j' c2 ec hj], fun i hi => ?_⟩
        rw [d3 c2 i hi, b1 39 (by decide) (by decide) (by decide)]
      · exact absurd (c2.symm.trans c) (by decide)
    · refine r_lay134 ea hs (j := 0) (fun q => absurd q c2) (fun M1 d1 d2 d3 => hp M1 ⟨fun r e1 e2 e3 e4 => ?_, ?_, fun t ht => ?_, fun t ht => ?_, fun p hp => ?_, fun j c ec hj => ?_, fun j' q => absurd q c2, fun c => ?_⟩)
      · rw [d1 r e4, b1 r e1 e2 e3]
      · rw [d1 40 (by decide), b2]
      · rw [d1 41 (by decide), b3 t ht]
      · rw [d1 42 (by decide), b4 t ht]
      · rw [d2 p hp, b1 43 (by decide) (by decide) (by decide)]
      · rw [d1 41 (by decide), d1 42 (by decide)]
        exact b5 j c ec hj
      · rw [d1 41 (by decide)]
        exact b7 c
  · have K : ∀ (v1 v2 : Int32) (V3 V4 V5 : Mem), V3 = mu M 40 0 s b → V4 = mu V3 41 0 s v1 → V5 = mu V4 42 0 s v2 → (∀ r, ¬ r = 40 → ¬ r = 41 → ¬ r = 42 → V5 r 0 = M r 0) ∧ V5 40 0 = upd (M 40 0) s b ∧ (∀ t, ¬ t = s → V5 41 0 t = M 41 0 t) ∧ (∀ t, ¬ t = s → V5 42 0 t = M 42 0 t) ∧ V5 41 0 s = v1 ∧ V5 42 0 s = v2 := by
      intro v1 v2 V3 V4 V5 e3 e4 e5
      refine ⟨fun r c1 c2 c3 => ?_, ?_, fun t ht => ?_, fun t ht => ?_, ?_, ?_⟩
      · rw [e5, mu_o c3, e4, mu_o c2, e3, mu_o c1]
      · rw [e5, mu_o (by decide), e4, mu_o (by decide), e3, mu_s]
      · rw [e5, mu_o (by decide), e4, mu_sn ht, e3, mu_o (by decide)]
      · rw [e5, mu_sn ht, e4, mu_o (by decide), e3, mu_o (by decide)]
      · rw [e5, mu_o (by decide), e4, mu_sk]
      · rw [e5, mu_sk]
    unfold wpX7_lay_0 wpX7_lay_29 wpX7_lay_44 wpX7_lay_61 wpX7_lay_110
    refine rlT hc ⟨_, rfl, t1 (rwT hb ⟨_, rfl, t1 ⟨fun n1 => ⟨fun n2 => ⟨fun _ => ⟨s, ea, hs, fun z2 e2 V3 e3 => ⟨fun _ => ⟨fun _ => ⟨s, ea, hs, fun V4 e4 => ⟨fun _ => ⟨s, ea, hs, fun V5 e5 => ?_⟩, fun q => absurd q n1⟩⟩, fun q => absurd q n2⟩, fun q => absurd q n1⟩⟩, fun q => absurd q n2⟩, fun c2 => ?_⟩, fun c1 => ?_⟩⟩)⟩
    · obtain ⟨k1, k2, k3, k4, k5, k6⟩ := K _ _ V3 V4 V5 e3 e4 e5
      exact ⟨rfl, rfl, rfl, e2, rfl, k1, k2, k3, k4, fun j q => absurd q n1, fun j q => absurd q n2, fun _ => k5⟩
    · obtain ⟨j, ec, hj, h37⟩ := h2 c2
      have hcj : 0 ≤ c ∧ c ≤ 3 := by rw [ec]; exact ⟨nI_le (a := 0) (by omega) (by omega), nI_le (b := 3) (by omega) (by omega)⟩
      refine rsT hcj ⟨_, rfl, t2 ⟨fun q => absurd c2 q, fun _ => ⟨j, ec, hj, fun _ => ⟨s, ea, hs, fun z2 e2 V3 e3 => ⟨fun n1 => ⟨fun q => absurd c2 q, fun _ => ⟨j, ec, hj, s, ea, hs, fun V4 e4 => ⟨fun _ => ⟨s, ea, hs, fun V5 e5 => ?_⟩, fun q => absurd q n1⟩⟩⟩, fun q => absurd (c2.symm.trans q) (by decide)⟩⟩, fun q => absurd h37 q⟩⟩⟩
      obtain ⟨k1, k2, k3, k4, k5, k6⟩ := K _ _ V3 V4 V5 e3 e4 e5
      refine ⟨rfl, rfl, rfl, e2, rfl, k1, k2, k3, k4, fun j q => absurd (c2.symm.trans q) (by decide), fun j' _ e1 e2' => ?_, fun q => absurd (c2.symm.trans q) (by decide)⟩
      have : j' = j := (nI_eq (by omega) (by omega)).mp (e1.symm.trans ec)
      subst this
      rw [k5, e3, mu_o (by decide)]
    · obtain ⟨j, ec, hj⟩ := h1 c1
      have hcj : 0 ≤ c ∧ c ≤ nI m - 1 := by rw [ec]; exact plc_in (by omega) hj
      have n2 : ¬ b = 2 := fun q => absurd (c1.symm.trans q) (by decide)
      refine rrT eM hcj ⟨_, rfl, t1 ⟨fun _ => ⟨fun _ => ⟨s, ea, hs, fun z2 e2 V3 e3 => ⟨fun q => absurd c1 q, fun _ => r_of (r := j) (k := 0) ec rfl (by omega) ⟨_, rfl, s, ea, hs, fun V4 e4 => ⟨fun q => absurd c1 q, fun _ => r_worth (r := j) ec (by omega) ⟨_, rfl, s, ea, hs, fun V5 e5 => ?_⟩⟩⟩⟩⟩, fun q => absurd q n2⟩, fun q => absurd q n2⟩⟩
      obtain ⟨k1, k2, k3, k4, k5, k6⟩ := K _ _ V3 V4 V5 e3 e4 e5
      have e25 : V4 25 0 = M 25 0 := by rw [e4, mu_o (by decide), e3, mu_o (by decide)]
      have e25' : V3 25 0 = M 25 0 := by rw [e3, mu_o (by decide)]
      refine ⟨rfl, rfl, rfl, e2, rfl, k1, k2, k3, k4, fun j' _ e1 e2' => ?_, fun j q => absurd q n2, fun q => absurd (c1.symm.trans q) (by decide)⟩
      have : j' = j := (nI_eq (by omega) (by omega)).mp (e1.symm.trans ec)
      subst this
      rw [k5, k6, e25, e25']
      exact ⟨rfl, rfl⟩
end OPS20
