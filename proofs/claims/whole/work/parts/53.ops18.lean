/-! ===== the calls, side by side: feed, copy ===== -/
def byt (x : Int32) (i : Nat) : Int32 := (x >>> ((24 - 8 * nI i) &&& 31)) &&& 255
def fby (a b c : Int32) (k : Nat) : Int32 := byt (if k < 4 then a else if k < 8 then b else c) (k % 4)
section OPS18
variable {d D : Nat} {V W X M X1 M1 : Mem} {P : Option AV → Mem → Prop} {w v m h T i j k r t u q m1 h1 s p : Nat} {n n1 : NF} {a b c x y z kk ss : Int32} {B B1 : Int}
theorem shr_and (x s t : Int32) (k : Nat) (hk : k = 0 ∨ k = 8 ∨ k = 16 ∨ k = 24) (hs : ((s.toUInt32 &&& Int32.toUInt32 31).toBitVec % 32).toNat = k) (ht : (t.toBitVec.smod 32).toNat = k) : (x.toUInt32 >>> (s.toUInt32 &&& Int32.toUInt32 31)).toInt32 &&& 255 = (x >>> t) &&& 255 := by
  rw [pk_and (x.toUInt32 >>> (s.toUInt32 &&& Int32.toUInt32 31)).toInt32 (m := 255) 8 (by decide), pk_and (x >>> t) (m := 255) 8 (by decide), pk_ushr _ _ k hs]
  have e : (x >>> t).toBitVec = x.toBitVec.sshiftRight k := by rw [← ht]; rfl
  rw [e]
  have hl := x.toBitVec.isLt
  apply congrArg nI
  cases hm : x.toBitVec.msb with
  | false => rw [BitVec.toNat_sshiftRight_of_msb_false hm, Nat.shiftRight_eq_div_pow]
  | true =>
    rw [BitVec.toNat_sshiftRight_of_msb_true hm, Nat.shiftRight_eq_div_pow]
    generalize x.toBitVec.toNat = y at hl ⊢
    rcases hk with rfl | rfl | rfl | rfl
    · simp only [Nat.reducePow, Nat.reduceSub] at hl ⊢; omega
    · simp only [Nat.reducePow, Nat.reduceSub] at hl ⊢; omega
    · simp only [Nat.reducePow, Nat.reduceSub] at hl ⊢; omega
    · simp only [Nat.reducePow, Nat.reduceSub] at hl ⊢; omega
theorem byt_u (hi : i < 4) : ((x.toUInt32 >>> (((24 - (8 * nI i)) : Int32).toUInt32 &&& Int32.toUInt32 31)).toInt32) &&& 255 = byt x i := by
  unfold byt
  rcases (show i = 0 ∨ i = 1 ∨ i = 2 ∨ i = 3 by omega) with e | e | e | e
  · subst e; exact shr_and x _ _ 24 (by omega) (by decide) (by decide)
  · subst e; exact shr_and x _ _ 16 (by omega) (by decide) (by decide)
  · subst e; exact shr_and x _ _ 8 (by omega) (by decide) (by decide)
  · subst e; exact shr_and x _ _ 0 (by omega) (by decide) (by decide)
theorem byt_rng : ∃ b, b < 256 ∧ byt x i = nI b := pk_andE _ (m := 255) 8 (by decide)
theorem x_putBytes (eb : b = nI p) (hb : p + 4 ≤ 96) (hp : ∀ V1, (∀ r i, ¬ (r = 17 ∧ i = 0) → V1 r i = V r i) → (∀ j, ¬ (p ≤ j ∧ j < p + 4) → V1 17 0 j = V 17 0 j) → (∀ i, i < 4 → V1 17 0 (p + i) = byt a i) → P none V1) : Cl UX (d + 1) mX6_putBytes [aR 0 0, aI a, aI b] V P := by
  subst eb
  have L : ∀ q i, i + q = 4 → ∀ V1, (∀ r i, ¬ (r = 17 ∧ i = 0) → V1 r i = V r i) → (∀ j, ¬ (p ≤ j ∧ j < p + i) → V1 17 0 j = V 17 0 j) → (∀ i0, i0 < i → V1 17 0 (p + i0) = byt a i0) → Gq (Kp (d + 1) mX6_putBytes UX P) UX cX6_putBytes 4 RX6 2 [(0, aR 0 0), (1, aI a), (2, aI (nI p)), (3, aI (nI i))] [] V1 := by
    intro q
    induction q with
    | zero =>
      intro i hi V1 h1 h2 h3
      have hi : i = 4 := by omega
      subst hi
      refine okX6_putBytes_2 (I2 := fun _ _ _ _ => False) a _ _ V1 (fun _ _ _ _ q => q.elim) ?_
      unfold wpX6_putBytes_2
      exact ⟨fun _ => hp V1 h1 h2 h3, fun c => absurd (by decide) c⟩
    | succ q ih =>
      intro i hi V1 h1 h2 h3
      refine okX6_putBytes_2 (I2 := fun x1 x2 x3 W => x1 = a ∧ x2 = nI p ∧ x3 = nI (i + 1) ∧ (∀ r i, ¬ (r = 17 ∧ i = 0) → W r i = V r i) ∧ (∀ j, ¬ (p ≤ j ∧ j < p + (i + 1)) → W 17 0 j = V 17 0 j) ∧ (∀ i0, i0 < i + 1 → W 17 0 (p + i0) = byt a i0)) a _ _ V1 (fun x1 x2 x3 W z => ?_) ?_
      · obtain ⟨rfl, rfl, rfl, z1, z2, z3⟩ := z
        exact ih (i + 1) (by omega) W z1 z2 z3
      · unfold wpX6_putBytes_2
        refine ⟨fun c => absurd c (nI_ge (b := 4) (by omega) (by omega)), fun _ => ⟨p + i, nI_add p i, by omega, fun V2 e2 => ⟨rfl, rfl, nI_1 i, fun r i a => ?_, fun j hj => ?_, fun i0 hi0 => ?_⟩⟩⟩
        · rw [e2, mu_eq, ma_ne a, h1 r i a]
        · rw [e2, mu_sn (by omega), h2 j (by omega)]
        · by_cases e : i0 = i
          · rw [e, e2, mu_sk, byt_u (by omega)]
          · rw [e2, mu_sn (by omega), h3 i0 (by omega)]
  refine clX6_putBytes (I2 := fun x1 x2 x3 W => x1 = a ∧ x2 = nI p ∧ x3 = nI 0 ∧ W = V) a (nI p) V (fun x1 x2 x3 W z => ?_) ?_
  · obtain ⟨rfl, rfl, rfl, hW⟩ := z
    rw [hW]
    exact L 4 0 (by omega) V (fun _ _ _ => rfl) (fun _ _ => rfl) (fun i hi => absurd hi (by omega))
  · unfold wpX6_putBytes_0
    exact ⟨rfl, rfl, rfl, rfl⟩
theorem r_feed (l3 : M 24 0 6 = nI u) (hu : u + 12 ≤ 96) (hp : ∀ M1, (∀ r, ¬ r = 24 → ¬ r = 29 → M1 r 0 = M r 0) → (∀ k, ¬ k = 6 → M1 24 0 k = M 24 0 k) → M1 24 0 6 = nI (u + 12) → (∀ j, j < u → M1 29 0 j = M 29 0 j) → (∀ k, k < 12 → M1 29 0 (u + k) = fby a b c k) → P (some (aI (nI (u + 12)))) M1) : Cl UM (d + 1) mX7_feed [aR 24 0, aI a, aI b, aI c] M P := by
  have L : ∀ q i, i + q = 12 → ∀ V1, (∀ r, ¬ r = 29 → V1 r 0 = M r 0) → (∀ j, j < u → V1 29 0 j = M 29 0 j) → (∀ k, k < i → V1 29 0 (u + k) = fby a b c k) → Gq (Kp (d + 1) mX7_feed UM P) UM cX7_feed 6 RX7 18 [(0, aR 24 0), (1, aI a), (2, aI b), (3, aI c), (4, aI (nI i))] [] V1 := by
    intro q
    induction q with
    | zero =>
      intro i hi V1 h1 h2 h3
      have hi : i = 12 := by omega
      subst hi
      refine okX7_feed_18 (I18 := fun _ _ _ _ _ => False) a b c _ V1 (fun _ _ _ _ _ q => q.elim) ?_
      unfold wpX7_feed_18
      refine ⟨fun _ V2 e2 => ?_, fun c => absurd (by decide) c⟩
      have e6 : V2 24 0 6 = nI (u + 12) := by rw [e2, mu_sk, h1 24 (by decide), l3]; exact nI_add u 12
      rw [e6]
      refine hp V2 (fun r a b => ?_) (fun k hk => ?_) e6 (fun j hj => ?_) (fun k hk => ?_)
      · rw [e2, mu_o a, h1 r b]
      · rw [e2, mu_sn hk, h1 24 (by decide)]
      · rw [e2, mu_o (by decide), h2 j hj]
      · rw [e2, mu_o (by decide), h3 k hk]
    | succ q ih =>
      intro i hi V1 h1 h2 h3
      refine okX7_feed_18 (I18 := fun x1 x2 x3 x4 W => x1 = a ∧ x2 = b ∧ x3 = c ∧ x4 = nI (i + 1) ∧ (∀ r, ¬ r = 29 → W r 0 = M r 0) ∧ (∀ j, j < u → W 29 0 j = M 29 0 j) ∧ (∀ k, k < i + 1 → W 29 0 (u + k) = fby a b c k)) a b c _ V1 (fun x1 x2 x3 x4 W z => ?_) ?_
      · obtain ⟨rfl, rfl, rfl, rfl, z1, z2, z3⟩ := z
        exact ih (i + 1) (by omega) W z1 z2 z3
      · unfold wpX7_feed_18
        have K : ∀ x, x = (if i < 4 then a else if i < 8 then b else c) → wpX7_feed_47 (Cl UM d) (fun x1 x2 x3 x4 W => x1 = a ∧ x2 = b ∧ x3 = c ∧ x4 = nI (i + 1) ∧ (∀ r, ¬ r = 29 → W r 0 = M r 0) ∧ (∀ j, j < u → W 29 0 j = M 29 0 j) ∧ (∀ k, k < i + 1 → W 29 0 (u + k) = fby a b c k)) a b c (nI i) x V1 P := by
          intro x hx
          unfold wpX7_feed_47
          intro z1 ez
          have ez : z1 = nI (i % 4) := ez.trans (pk_rem (d := 4) (by omega) (by decide) (by decide))
          rw [h1 24 (by decide), l3]
          refine ⟨u + i, nI_add u i, by omega, fun V2 e2 => ⟨rfl, rfl, rfl, nI_1 i, fun r a => ?_, fun j hj => ?_, fun k hk => ?_⟩⟩
          · rw [e2, mu_o a, h1 r a]
          · rw [e2, mu_sn (by omega), h2 j hj]
          · by_cases e : k = i
            · rw [e, e2, mu_sk, ez, hx]; rfl
            · rw [e2, mu_sn (by omega), h3 k (by omega)]
        refine ⟨fun c => absurd c (nI_ge (b := 12) (by omega) (by omega)), fun _ => ⟨fun c4 => ?_, fun c4 => ?_⟩⟩
        · have c4 : ¬ i < 4 := fun q => absurd c4 (nI_ge (b := 4) q (by omega))
          refine ⟨fun c8 => ?_, fun c8 => ?_⟩
          · have c8 : ¬ i < 8 := fun q => absurd c8 (nI_ge (b := 8) q (by omega))
            exact K _ (by rw [if_neg c4, if_neg c8])
          · have c8 : i < 8 := by
              rcases Nat.lt_or_ge i 8 with q | q
              · exact q
              · exact absurd (nI_le (a := 8) q (by omega)) c8
            exact K _ (by rw [if_neg c4, if_pos c8])
        · have c4 : i < 4 := by
            rcases Nat.lt_or_ge i 4 with q | q
            · exact q
            · exact absurd (nI_le (a := 4) q (by omega)) c4
          exact K _ (by rw [if_pos c4])
  refine clX7_feed (I18 := fun x1 x2 x3 x4 W => x1 = a ∧ x2 = b ∧ x3 = c ∧ x4 = nI 0 ∧ W = M) a b c M (fun x1 x2 x3 x4 W z => ?_) ?_
  · obtain ⟨rfl, rfl, rfl, rfl, hW⟩ := z
    rw [hW]
    exact L 12 0 (by omega) M (fun _ _ => rfl) (fun _ _ => rfl) (fun i hi => absurd hi (by omega))
  · unfold wpX7_feed_0
    rw [l3]
    exact ⟨fun _ => ⟨rfl, rfl, rfl, rfl, rfl⟩, fun c => absurd (by rw [show nI u + 12 = nI (u + 12) from nI_add u 12]; exact nI_le (b := 96) (by omega) (by omega)) c⟩
theorem op_feed (hG : GR X M) : OP (d + 12) mX6_feed mX7_feed [aI a, aI b, aI c] X M := by
  obtain ⟨m, T, h, hN, hR⟩ := id hG
  obtain ⟨L, l1, l2, l3, l4⟩ := id hR.2.2.2.1
  refine clX6_feed a b c X ?_
  unfold wpX6_feed_0
  rw [l2]
  refine ⟨fun c84 => ?_, fun c84 => ⟨_, rfl, ?_⟩⟩
  · have hL : L ≤ 84 := (nI_leI (b := 84) (by omega) (by omega)).mp c84
    refine x_putBytes (p := L) rfl (by omega) (fun V1 a1 a2 a3 => ⟨rfl, ?_⟩)
    have x1 : V1 0 0 = X 0 0 := a1 0 0 (by omega)
    refine x_putBytes (p := L + 4) (by rw [x1, l2]; exact nI_add L 4) (by omega) (fun V2 b1 b2 b3 => ⟨rfl, ?_⟩)
    have x2 : V2 0 0 = X 0 0 := (b1 0 0 (by omega)).trans x1
    refine x_putBytes (p := L + 8) (by rw [x2, l2]; exact nI_add L 8) (by omega) (fun V3 c1 c2 c3 => ⟨rfl, fun V4 e4 => ?_⟩)
    have x3 : V3 0 0 = X 0 0 := (c1 0 0 (by omega)).trans x2
    have e6 : V4 0 0 6 = nI (L + 12) := by rw [e4, mu_sk, x3, l2]; exact nI_add L 12
    have e17 : V4 17 0 = V3 17 0 := by rw [e4, mu_o (by decide)]
    have old : ∀ j, j < L → V4 17 0 j = X 17 0 j := fun j hj => by rw [e17, c2 j (by omega), b2 j (by omega), a2 j (by omega)]
    have new : ∀ k, k < 12 → V4 17 0 (L + k) = fby a b c k := by
      intro k hk
      rw [e17]
      unfold fby
      rcases (show k < 4 ∨ (4 ≤ k ∧ k < 8) ∨ 8 ≤ k by omega) with q | q | q
      · rw [c2 _ (by omega), b2 _ (by omega), a3 k q, if_pos q, Nat.mod_eq_of_lt q]
      · rw [c2 _ (by omega), show L + k = L + 4 + (k - 4) by omega, b3 (k - 4) (by omega), if_neg (by omega), if_pos (by omega), show k % 4 = k - 4 by omega]
      · rw [show L + k = L + 8 + (k - 8) by omega, c3 (k - 8) (by omega), if_neg (by omega), if_neg (by omega), show k % 4 = k - 8 by omega]
    rw [e6]
    refine ⟨_, rfl, r_feed l3 (by omega) (fun M1 g1 g2 g3 g4 g5 => ⟨rfl, ?_⟩)⟩
    refine GR.tp hN hR (fun r i q1 q2 => ?_) (fun k hk => ?_) g1 g2 ⟨L + 12, by omega, e6, g3, fun k hk => ?_⟩
    · rw [e4, mu_eq, ma_ne q1, c1 r i q2, b1 r i q2, a1 r i q2]
    · rw [e4, mu_sn hk, x3]
    · by_cases q : k < L
      · rw [old k q, g4 k q]
        exact l4 k q
      · obtain ⟨k', rfl⟩ : ∃ k', k = L + k' := ⟨k - L, by omega⟩
        rw [new k' (by omega), g5 k' (by omega)]
        exact ⟨rfl, byt_rng⟩
  · have hL : ¬ L ≤ 84 := fun q => c84 (nI_le (b := 84) q (by omega))
    refine clX7_feed (I18 := fun _ _ _ _ _ => False) a b c M (fun _ _ _ _ _ q => q.elim) ?_
    unfold wpX7_feed_0
    rw [l3]
    refine ⟨fun q => ?_, fun _ => ⟨rfl, hG⟩⟩
    rw [show nI L + 12 = nI (L + 12) from nI_add L 12] at q
    exact absurd ((nI_leI (b := 96) (by omega) (by omega)).mp q) (by omega)
theorem x_hasPlaces (hs : s < 9) (e : V 4 s 1 = nI u) (hz : u ≤ 24) (hT : ∀ p q, b = nI p → c = nI q → p + q ≤ u → P (some (aI 1)) V) (hF : (¬ ∃ p q, b = nI p ∧ c = nI q ∧ p + q ≤ u) → P (some (aI 0)) V) : Cl UX (d + 1) mX3_hasPlaces [aR 4 s, aI b, aI c] V P := by
  refine clX3_hasPlaces s hs b c V ?_
  unfold wpX3_hasPlaces_0
  rw [e]
  refine ⟨fun c1 => hF (fun ⟨p, q, e1, e2, e3⟩ => ?_), fun c1 => ⟨fun c2 => hF (fun ⟨p, q, e1, e2, e3⟩ => ?_), fun c2 => ?_⟩⟩
  · rw [e2] at c1; exact absurd c1 (nI_pos (by omega))
  · rw [e1] at c2; exact absurd c2 (nI_pos (by omega))
  · obtain ⟨q, q1, q2⟩ := nI_of c1
    obtain ⟨p, p1, p2⟩ := nI_of c2
    subst q2
    subst p2
    refine ⟨fun c3 => hF (fun ⟨p', q', e1, e2, e3⟩ => ?_), fun c3 => ?_⟩
    · have := (nI_eq p1 (by omega)).mp e1
      have c3 := (nI_ltI (by omega) p1).mp c3
      omega
    · have hpu : p ≤ u := by
        rcases Nat.lt_or_ge u p with z | z
        · exact absurd (nI_lt z p1) c3
        · exact z
      rw [pk_sub hpu]
      refine ⟨fun c4 => hF (fun ⟨p', q', e1, e2, e3⟩ => ?_), fun c4 => hT p q rfl rfl ?_⟩
      · have h1 := (nI_eq p1 (by omega)).mp e1
        have h2 := (nI_eq q1 (by omega)).mp e2
        have c4 := (nI_ltI (by omega) q1).mp c4
        omega
      · rcases Nat.lt_or_ge (u - p) q with z | z
        · exact absurd (nI_lt z q1) c4
        · omega
theorem GR.m44 (hG : GR X M) (hM : ∀ r, ¬ r = 44 → M1 r 0 = M r 0) : GR X M1 := by
  obtain ⟨m, T, h, hN, hR⟩ := hG
  refine ⟨m, T, h, ?_, hR.eq (fun _ _ _ => rfl) (fun r q => hM r (fun z => q (by unfold nowM; omega)))⟩
  unfold NowR
  rw [hM 25 (by decide)]
  exact hN
end OPS18
