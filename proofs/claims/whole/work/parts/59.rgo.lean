/-! ===== texts: the reference's scanner ===== -/
def RT (V : Mem) (tp : NF) (st en so : Nat) : Prop := V 24 0 8 = nI st ∧ V 24 0 7 = nI en ∧ V 24 0 9 = (if so = 2 ∧ 4 < en - st then 4 else nI so) ∧ ((so = 1 ∨ so = 3) → V 24 0 10 = tp st) ∧ (so = 2 → en - st ≤ 4 → V 24 0 10 = numv tp st (en - st)) ∧ ((so = 1 ∨ so = 2) → V 24 0 11 = nI en) ∧ (so = 3 → (V 24 0 11).toInt < en)
def FRm (V W : Mem) : Prop := (∀ r i, ¬ (r = 24 ∧ i = 0) → W r i = V r i) ∧ ∀ k, k < 7 ∨ 11 < k → W 24 0 k = V 24 0 k
section RGO
variable {d D : Nat} {V W X M X1 M1 : Mem} {P : Option AV → Mem → Prop} {m h T i j k r t u q m1 h1 s p e st en so so0 L : Nat} {n n1 tp : NF} {a b c x y z kk ss : Int32} {w : Bool}
theorem FRm.rf : FRm V V := ⟨fun _ _ _ => rfl, fun _ _ => rfl⟩
theorem FRm.mu (h : FRm V W) (hk : 7 ≤ k ∧ k ≤ 11) : FRm V (mu W 24 0 k x) := ⟨fun r i q => by rw [mu_eq, ma_ne q, h.1 r i q], fun j hj => by rw [mu_sn (by omega), h.2 j hj]⟩
theorem r_isLetter (e6 : V 24 0 6 = nI L) (hL : L ≤ 96) (ea : a = nI k) (hk : k ≤ L) (htp : ∀ j, j < L → V 29 0 j = tp j) (hT : k < L → srt (tp k) = 1 → P (some (aI 1)) V) (hF : ¬ (k < L ∧ srt (tp k) = 1) → P (some (aI 0)) V) : Cl UM (d + 1) mX7_isLetter [aR 24 0, aI a] V P := by
  refine clX7_isLetter a V ?_
  unfold wpX7_isLetter_0
  rw [e6, ea]
  refine ⟨fun c => hF (fun q => absurd c (nI_ge q.1 (by omega))), fun c => ?_⟩
  have hk' : k < L := by
    rcases Nat.lt_or_ge k L with z | z
    · exact z
    · exact absurd (nI_le z (by omega)) c
  have s1 : srt (tp k) = 1 ↔ 97 ≤ tp k ∧ tp k ≤ 122 := by
    unfold srt
    by_cases q : 97 ≤ tp k ∧ tp k ≤ 122
    · rw [if_pos q]; exact ⟨fun _ => q, fun _ => rfl⟩
    · rw [if_neg q]
      refine ⟨fun z => ?_, fun z => absurd z q⟩
      split at z <;> omega
  refine ⟨k, rfl, by omega, ?_⟩
  rw [htp k hk']
  refine ⟨fun c1 => hF (fun q => ?_), fun c1 => ⟨fun c2 => hF (fun q => ?_), fun c2 => hT hk' (s1.mpr ⟨?_, ?_⟩)⟩⟩
  · have := (s1.mp q.2).1
    rw [ti_lt] at c1; rw [ti_le] at this; omega
  · have := (s1.mp q.2).2
    rw [ti_lt] at c2; rw [ti_le] at this; omega
  · rw [ti_lt] at c1; rw [ti_le]; omega
  · rw [ti_lt] at c2; rw [ti_le]; omega
theorem r_isFigure (e6 : V 24 0 6 = nI L) (hL : L ≤ 96) (ea : a = nI k) (hk : k ≤ L) (htp : ∀ j, j < L → V 29 0 j = tp j) (hT : k < L → srt (tp k) = 2 → P (some (aI 1)) V) (hF : ¬ (k < L ∧ srt (tp k) = 2) → P (some (aI 0)) V) : Cl UM (d + 1) mX7_isFigure [aR 24 0, aI a] V P := by
  refine clX7_isFigure a V ?_
  unfold wpX7_isFigure_0
  rw [e6, ea]
  refine ⟨fun c => hF (fun q => absurd c (nI_ge q.1 (by omega))), fun c => ?_⟩
  have hk' : k < L := by
    rcases Nat.lt_or_ge k L with z | z
    · exact z
    · exact absurd (nI_le z (by omega)) c
  have s1 : srt (tp k) = 2 ↔ 48 ≤ tp k ∧ tp k ≤ 57 := by
    unfold srt
    have e97 : (97 : Int32).toInt = 97 := rfl
    have e57 : (57 : Int32).toInt = 57 := rfl
    by_cases q : 97 ≤ tp k ∧ tp k ≤ 122
    · rw [if_pos q]
      refine ⟨fun z => absurd z (by decide), fun z => ?_⟩
      have h1 := ti_le.mp q.1
      have h2 := ti_le.mp z.2
      rw [e97] at h1
      rw [e57] at h2
      omega
    · rw [if_neg q]
      by_cases q2 : 48 ≤ tp k ∧ tp k ≤ 57
      · rw [if_pos q2]; exact ⟨fun _ => q2, fun _ => rfl⟩
      · rw [if_neg q2]
        exact ⟨fun z => absurd z (by decide), fun z => absurd z q2⟩
  refine ⟨k, rfl, by omega, ?_⟩
  rw [htp k hk']
  refine ⟨fun c1 => hF (fun q => ?_), fun c1 => ⟨fun c2 => hF (fun q => ?_), fun c2 => hT hk' (s1.mpr ⟨?_, ?_⟩)⟩⟩
  · have := (s1.mp q.2).1
    rw [ti_lt] at c1; rw [ti_le] at this; omega
  · have := (s1.mp q.2).2
    rw [ti_lt] at c2; rw [ti_le] at this; omega
  · rw [ti_lt] at c1; rw [ti_le]; omega
  · rw [ti_lt] at c2; rw [ti_le]; omega
theorem r_go (e6 : V 24 0 6 = nI L) (e7 : V 24 0 7 = nI e) (hL : L ≤ 96) (htp : ∀ j, j < L → V 29 0 j = tp j) (hw1 : w = true → V 24 0 11 = nI e) (hw2 : w = false → (V 24 0 11).toInt < e) (hT : Tok tp L e w st en so)
    (hp : ∀ V1, FRm V V1 → RT V1 tp st en so → P none V1) : Cl UM (d + 2) mX7_go [aR 24 0] V P := by
  have hle := hT.le
  have i6 : ∀ {W : Mem}, FRm V W → W 24 0 6 = nI L := fun h => by rw [h.2 6 (by omega), e6]
  have itp : ∀ {W : Mem}, FRm V W → ∀ j, j < L → W 29 0 j = tp j := fun h j hj => by rw [h.1 29 0 (by omega), htp j hj]
  obtain ⟨t1', t2', t3, t4⟩ := id hT
  have cl : nI st = V 24 0 11 ↔ w = true ∧ st = e := by
    cases w with
    | true =>
      rw [hw1 rfl]
      exact ⟨fun q => ⟨rfl, (nI_eq (by omega) (by omega)).mp q⟩, fun q => by rw [q.2]⟩
    | false =>
      have := hw2 rfl
      refine ⟨fun q => ?_, fun q => absurd q.1 (by decide)⟩
      rw [← q, nI_toInt (by omega)] at this
      omega
  have e11 : (V 24 0 11).toInt ≤ e := by
    cases w with
    | true => rw [hw1 rfl, nI_toInt (by omega)]; exact Int.le_refl _
    | false => have := hw2 rfl; omega
  -- a word of letters
  have L93 : (∃ q, q = 1 ∧ st < en ∧ st < L ∧ en ≤ L ∧ (∀ j, st ≤ j → j < en → srt (tp j) = q) ∧ (en = L ∨ ¬ srt (tp en) = q) ∧ so = if w = true ∧ st = e then 4 else q) → ∀ fuel p, p + fuel = en → st ≤ p → ∀ (x1 : Int32) (W : Mem), (x1 = 0 ↔ ¬ (w = true ∧ st = e)) → FRm V W → W 24 0 8 = nI st → W 24 0 7 = nI p → Gq (Kp (d + 2) mX7_go UM P) UM cX7_go 2 RX7 93 [(0, aR 24 0), (1, aI x1)] [] W := by
    rintro ⟨q, rfl, u1, u2, u3, u4, u5, u6⟩ fuel
    induction fuel with
    | zero =>
      intro p hpe hsp x1 W hx hF h8 h7
      have hpe : p = en := by omega
      subst hpe
      refine okX7_go_93 (I0 := fun _ => False) (I93 := fun _ _ => False) (I170 := fun _ _ => False) x1 W (fun _ q => q.elim) (fun _ _ q => q.elim) (fun _ _ q => q.elim) ?_
      unfold wpX7_go_93
      refine r_isLetter (i6 hF) hL h7 u3 (itp hF) (fun c1 c2 => absurd c2 (u5.resolve_left (by omega))) (fun _ => ⟨_, rfl, f1 ?_⟩)
      have K : ∀ s0 : Nat, s0 = so → (s0 = 1 ∨ s0 = 4) → wpX7_go_127 (Cl UM (d + 1)) (fun _ => False) (fun _ _ => False) (fun _ _ => False) x1 (nI s0) W P := by
        intro s0 hs0 hs1
        unfold wpX7_go_127
        intro V1 a1
        refine ⟨st, ?_, by omega, fun V3 a3 V4 a4 => hp V4 ?_ ⟨?_, ?_, ?_, fun _ => ?_, fun z => ?_, fun _ => ?_, fun z => ?_⟩⟩
        · rw [a1, mu_sn (by omega), h8]
        · rw [a4, a3, a1]
          exact ((hF.mu (by omega)).mu (by omega)).mu (by omega)
        · rw [a4, mu_sn (by omega), a3, mu_sn (by omega), a1, mu_sn (by omega), h8]
        · rw [a4, mu_sn (by omega), a3, mu_sn (by omega), a1, mu_sn (by omega), h7]
        · rw [a4, mu_sn (by omega), a3, mu_sn (by omega), a1, mu_sk, hs0, if_neg (by omega)]
        · rw [a4, mu_sn (by omega), a3, mu_sk, a1, mu_o (by decide), itp hF st u2]
        · omega
        · rw [a4, mu_sk, a3, mu_sn (by omega), a1, mu_sn (by omega), h7]
        · omega
      refine ⟨fun c => ?_, fun c => ?_⟩
      · have := hx.mp c
        rw [if_neg this] at u6
        exact K 1 u6.symm (Or.inl rfl)
      · have : w = true ∧ st = e := Classical.byContradiction (fun z => c (hx.mpr z))
        rw [if_pos this] at u6
        exact K 4 u6.symm (Or.inr rfl)
    | succ fuel ih =>
      intro p hpe hsp x1 W hx hF h8 h7
      refine okX7_go_93 (I0 := fun _ => False) (I93 := fun y1 W1 => y1 = x1 ∧ FRm V W1 ∧ W1 24 0 8 = nI st ∧ W1 24 0 7 = nI (p + 1)) (I170 := fun _ _ => False) x1 W (fun _ q => q.elim) (fun y1 W1 z => ?_) (fun _ _ q => q.elim) ?_
      · obtain ⟨rfl, z1, z2, z3⟩ := z
        exact ih (p + 1) (by omega) (by omega) y1 W1 hx z1 z2 z3
      · unfold wpX7_go_93
        refine r_isLetter (i6 hF) hL h7 (by omega) (itp hF) (fun c1 c2 => ⟨_, rfl, t1 (fun V4 a4 => ⟨rfl, ?_, ?_, ?_⟩)⟩) (fun c => absurd ⟨by omega, u4 p hsp (by omega)⟩ c)
        · rw [a4]; exact hF.mu (by omega)
        · rw [a4, mu_sn (by omega), h8]
        · rw [a4, mu_sk, h7, nI_1]
  -- a word of figures
  have L170 : (∃ q, q = 2 ∧ st < en ∧ st < L ∧ en ≤ L ∧ (∀ j, st ≤ j → j < en → srt (tp j) = q) ∧ (en = L ∨ ¬ srt (tp en) = q) ∧ so = if w = true ∧ st = e then 4 else q) → ∀ fuel p, p + fuel = en → st ≤ p → ∀ (x1 : Int32) (W : Mem), (x1 = 0 ↔ ¬ (w = true ∧ st = e)) → FRm V W → W 24 0 8 = nI st → W 24 0 7 = nI p → (p - st ≤ 4 → W 24 0 10 = numv tp st (p - st)) → Gq (Kp (d + 2) mX7_go UM P) UM cX7_go 2 RX7 170 [(0, aR 24 0), (1, aI x1)] [] W := by
    rintro ⟨q, rfl, u1, u2, u3, u4, u5, u6⟩ fuel
    induction fuel with
    | zero =>
      intro p hpe hsp x1 W hx hF h8 h7 h10
      have hpe : p = en := by omega
      subst hpe
      refine okX7_go_170 (I0 := fun _ => False) (I93 := fun _ _ => False) (I170 := fun _ _ => False) x1 W (fun _ q => q.elim) (fun _ _ q => q.elim) (fun _ _ q => q.elim) ?_
      unfold wpX7_go_170
      refine r_isFigure (i6 hF) hL h7 u3 (itp hF) (fun c1 c2 => absurd c2 (u5.resolve_left (by omega))) (fun _ => ⟨_, rfl, f1 ?_⟩)
      rw [h7, h8, pk_sub (by omega)]
      have K : (so = 4 ∨ (so = 2 ∧ 4 < p - st)) → wpX7_go_256 (Cl UM (d + 1)) (fun _ => False) (fun _ _ => False) (fun _ _ => False) x1 W P := by
        intro hso
        unfold wpX7_go_256
        intro V1 a1 V2 a2
        refine hp V2 ?_ ⟨?_, ?_, ?_, fun z => ?_, fun z z2 => ?_, fun _ => ?_, fun z => ?_⟩
        · rw [a2, a1]
          exact (hF.mu (by omega)).mu (by omega)
        · rw [a2, mu_sn (by omega), a1, mu_sn (by omega), h8]
        · rw [a2, mu_sn (by omega), a1, mu_sn (by omega), h7]
        · rw [a2, mu_sn (by omega), a1, mu_sk]
          rcases hso with z | z
          · rw [if_neg (by omega), z]; rfl
          · rw [if_pos z]
        · omega
        · omega
        · rw [a2, mu_sk, a1, mu_sn (by omega), h7]
        · omega
      refine ⟨fun c => K (Or.inl ?_), fun c => ⟨fun c2 V3 a3 V4 a4 => ?_, fun c2 => K (Or.inr ⟨?_, ?_⟩)⟩⟩
      · rw [u6, if_pos (Classical.byContradiction (fun z => c (hx.mpr z)))]
      · have hso : so = 2 := by rw [u6, if_neg (hx.mp c)]
        have c2 : p - st ≤ 4 := (nI_leI (b := 4) (by omega) (by omega)).mp c2
        refine hp V4 ?_ ⟨?_, ?_, ?_, fun z => ?_, fun z z2 => ?_, fun _ => ?_, fun z => ?_⟩
        · rw [a4, a3]
          exact (hF.mu (by omega)).mu (by omega)
        · rw [a4, mu_sn (by omega), a3, mu_sn (by omega), h8]
        · rw [a4, mu_sn (by omega), a3, mu_sn (by omega), h7]
        · rw [a4, mu_sn (by omega), a3, mu_sk, if_neg (by omega), hso]; rfl
        · omega
        · rw [a4, mu_sn (by omega), a3, mu_sn (by omega), h10 c2]
        · rw [a4, mu_sk, a3, mu_sn (by omega), h7]
        · omega
      · rw [u6, if_neg (hx.mp c)]
      · rcases Nat.lt_or_ge 4 (p - st) with z | z
        · exact z
        · exact absurd (nI_le (b := 4) z (by omega)) c2
    | succ fuel ih =>
      intro p hpe hsp x1 W hx hF h8 h7 h10
      refine okX7_go_170 (I0 := fun _ => False) (I93 := fun _ _ => False) (I170 := fun y1 W1 => y1 = x1 ∧ FRm V W1 ∧ W1 24 0 8 = nI st ∧ W1 24 0 7 = nI (p + 1) ∧ (p + 1 - st ≤ 4 → W1 24 0 10 = numv tp st (p + 1 - st))) x1 W (fun _ q => q.elim) (fun _ _ q => q.elim) (fun y1 W1 z => ?_) ?_
      · obtain ⟨rfl, z1, z2, z3, z4⟩ := z
        exact ih (p + 1) (by omega) (by omega) y1 W1 hx z1 z2 z3 z4
      · unfold wpX7_go_170
        refine r_isFigure (i6 hF) hL h7 (by omega) (itp hF) (fun c1 c2 => ⟨_, rfl, t1 ?_⟩) (fun c => absurd ⟨by omega, u4 p hsp (by omega)⟩ c)
        rw [h7, h8, pk_sub (by omega)]
        have K : ∀ s0 : Int32, (p + 1 - st ≤ 4 → s0 = numv tp st (p + 1 - st)) → wpX7_go_222 (Cl UM (d + 1)) (fun _ => False) (fun _ _ => False) (fun y1 W1 => y1 = x1 ∧ FRm V W1 ∧ W1 24 0 8 = nI st ∧ W1 24 0 7 = nI (p + 1) ∧ (p + 1 - st ≤ 4 → W1 24 0 10 = numv tp st (p + 1 - st))) x1 s0 W P := by
          intro s0 hs0
          unfold wpX7_go_222
          intro V1 a1 V2 a2
          refine ⟨rfl, ?_, ?_, ?_, fun z => ?_⟩
          · rw [a2, a1]
            exact (hF.mu (by omega)).mu (by omega)
          · rw [a2, mu_sn (by omega), a1, mu_sn (by omega), h8]
          · rw [a2, mu_sk, a1, mu_sn (by omega), h7, nI_1]
          · rw [a2, mu_sn (by omega), a1, mu_sk, hs0 z]
        refine ⟨fun c => K _ (fun z => ?_), fun c => ⟨p, rfl, by omega, K _ (fun z => ?_)⟩⟩
        · exact absurd c (nI_ge (b := 4) (by omega) (by omega))
        · rw [h10 (by omega), itp hF p c1, show p + 1 - st = (p - st) + 1 by omega, numv, show st + (p - st) = p by omega]
  -- what stands at st
  have S62 : ∀ (W : Mem) (s0 : Int32), (s0 = 0 ↔ ¬ (w = true ∧ st = e)) → FRm V W → W 24 0 8 = nI st → W 24 0 7 = nI st → W 24 0 11 = V 24 0 11 → wpX7_go_62 (Cl UM (d + 1)) (fun _ => False) (fun y1 W1 => y1 = s0 ∧ W1 = W ∧ st < L ∧ srt (tp st) = 1) (fun y1 W1 => y1 = s0 ∧ W1 = mu W 24 0 10 0 ∧ st < L ∧ srt (tp st) = 2) s0 W P := by
    intro W s0 hs0 hF h8 h7 h11
    unfold wpX7_go_62
    rw [h8, i6 hF]
    refine ⟨fun c => ?_, fun c V12 a12 => ?_⟩
    · have hlt : st < L := by
        rcases Nat.lt_or_ge st L with z | z
        · exact z
        · exact absurd (by rw [show st = L by omega]) c
      refine r_isLetter (i6 hF) hL rfl (by omega) (itp hF) (fun c1 c2 => ⟨_, rfl, t1 ⟨rfl, rfl, hlt, c2⟩⟩) (fun c1 => ⟨_, rfl, f1 ?_⟩)
      rw [h8]
      refine r_isFigure (i6 hF) hL rfl (by omega) (itp hF) (fun c2 c3 => ⟨_, rfl, t1 (fun V9 a9 => ⟨rfl, a9, hlt, c3⟩)⟩) (fun c2 => ⟨_, rfl, f1 (fun V5 a5 => ⟨st, ?_, by omega, fun V7 a7 V8 a8 => ?_⟩)⟩)
      · rw [a5, mu_sn (by omega), h8]
      · have s3 : srt (tp st) = 3 := by
          rcases srt_le (a := tp st) with z | z | z
          · exact absurd ⟨hlt, z⟩ c1
          · exact absurd ⟨hlt, z⟩ c2
          · exact z
        have ⟨hen, hso⟩ : en = st + 1 ∧ so = 3 := by
          rcases t4 with ⟨v1, v2, v3⟩ | ⟨v1, v2, v3, v4⟩
          · omega
          · rcases v4 with ⟨r1, r2, r3⟩ | ⟨q, r1, r2, r3, r4, r5⟩
            · exact ⟨r2, r3⟩
            · have := r3 st (Nat.le_refl _) r2
              omega
        refine hp V8 ?_ ⟨?_, ?_, ?_, fun _ => ?_, fun z => ?_, fun z => ?_, fun z => ?_⟩
        · rw [a8, a7, a5]
          exact ((hF.mu (by omega)).mu (by omega)).mu (by omega)
        · rw [a8, mu_sn (by omega), a7, mu_sn (by omega), a5, mu_sn (by omega), h8]
        · rw [a8, mu_sk, a7, mu_sn (by omega), a5, mu_sn (by omega), h7, hen, nI_1]
        · rw [a8, mu_sn (by omega), a7, mu_sn (by omega), a5, mu_sk, if_neg (by omega), hso]; rfl
        · rw [a8, mu_sn (by omega), a7, mu_sk, a5, mu_o (by decide), itp hF st hlt]
        · omega
        · omega
        · rw [a8, mu_sn (by omega), a7, mu_sn (by omega), a5, mu_sn (by omega), h11]
          omega
    · have hlt : st = L := (nI_eq (by omega) (by omega)).mp c
      have ⟨hen, hso⟩ : en = st ∧ so = 0 := by
        rcases t4 with ⟨v1, v2, v3⟩ | ⟨v1, v2, v3, v4⟩
        · exact ⟨v2, v3⟩
        · omega
      refine hp V12 ?_ ⟨?_, ?_, ?_, fun z => ?_, fun z => ?_, fun z => ?_, fun z => ?_⟩
      · rw [a12]; exact hF.mu (by omega)
      · rw [a12, mu_sn (by omega), h8]
      · rw [a12, mu_sn (by omega), h7, hen]
      · rw [a12, mu_sk, if_neg (by omega), hso]; rfl
      · omega
      · omega
      · omega
      · omega
  have L0 : ∀ fuel p, p + fuel = st → e ≤ p → ∀ W, FRm V W → W 24 0 7 = nI p → W 24 0 11 = V 24 0 11 → Gq (Kp (d + 2) mX7_go UM P) UM cX7_go 2 RX7 0 [(0, aR 24 0)] [] W := by
    intro fuel
    induction fuel with
    | zero =>
      intro p hps hep W hF h7 h11
      have hps : p = st := by omega
      subst hps
      have S38 : ∃ s0 : Int32, (s0 = 0 ↔ ¬ (w = true ∧ p = e)) ∧ (∀ I93 I170, wpX7_go_62 (Cl UM (d + 1)) (fun _ => False) I93 I170 s0 (mu W 24 0 8 (nI p)) P → wpX7_go_38 (Cl UM (d + 1)) (fun _ => False) I93 I170 W P) := by
        by_cases q : w = true ∧ p = e
        · refine ⟨1, ⟨fun z => absurd z (by decide), fun z => absurd q z⟩, fun I93 I170 hh => ?_⟩
          unfold wpX7_go_38
          intro V1 a1
          rw [h7] at a1
          subst a1
          rw [mu_sk, mu_sn (by omega), h11]
          exact ⟨fun c => absurd (cl.mpr q) c, fun _ => hh⟩
        · refine ⟨0, ⟨fun _ => q, fun _ => rfl⟩, fun I93 I170 hh => ?_⟩
          unfold wpX7_go_38
          intro V1 a1
          rw [h7] at a1
          subst a1
          rw [mu_sk, mu_sn (by omega), h11]
          exact ⟨fun _ => hh, fun c => absurd (cl.mp c) q⟩
      obtain ⟨s0, hs0, h38⟩ := S38
      have hF1 : FRm V (mu W 24 0 8 (nI p)) := hF.mu (by omega)
      refine okX7_go_0 (I0 := fun _ => False) (I93 := fun y1 W1 => y1 = s0 ∧ W1 = mu W 24 0 8 (nI p) ∧ p < L ∧ srt (tp p) = 1) (I170 := fun y1 W1 => y1 = s0 ∧ W1 = mu (mu W 24 0 8 (nI p)) 24 0 10 0 ∧ p < L ∧ srt (tp p) = 2) W (fun _ q => q.elim) (fun y1 W1 z => ?_) (fun y1 W1 z => ?_) ?_
      · obtain ⟨rfl, rfl, z1, z2⟩ := z
        rcases t4 with ⟨v1, v2, v3⟩ | ⟨v1, v2, v3, v4⟩
        · omega
        · rcases v4 with ⟨r1, r2, r3⟩ | ⟨q, r1, r2, r3, r4, r5⟩
          · omega
          · have hq := r3 p (Nat.le_refl _) r2
            exact L93 ⟨q, by omega, r2, v1, v3, r3, r4, r5⟩ (en - p) p (by omega) (Nat.le_refl _) y1 _ hs0 hF1 (mu_sk _ _ _ _ _) (by rw [mu_sn (by omega), h7])
      · obtain ⟨rfl, rfl, z1, z2⟩ := z
        rcases t4 with ⟨v1, v2, v3⟩ | ⟨v1, v2, v3, v4⟩
        · omega
        · rcases v4 with ⟨r1, r2, r3⟩ | ⟨q, r1, r2, r3, r4, r5⟩
          · omega
          · have hq := r3 p (Nat.le_refl _) r2
            refine L170 ⟨q, by omega, r2, v1, v3, r3, r4, r5⟩ (en - p) p (by omega) (Nat.le_refl _) y1 _ hs0 (hF1.mu (by omega)) (by rw [mu_sn (by omega), mu_sk]) (by rw [mu_sn (by omega), mu_sn (by omega), h7]) (fun _ => ?_)
            rw [mu_sk, Nat.sub_self]; rfl
      · unfold wpX7_go_0
        have Z := h38 _ _ (S62 _ s0 hs0 hF1 (mu_sk _ _ _ _ _) (by rw [mu_sn (by omega), h7]) (by rw [mu_sn (by omega), h11]))
        refine ⟨fun _ => Z, fun c => ⟨p, h7, ?_, fun _ => Z, fun c2 => ?_⟩⟩
        · rw [i6 hF, h7] at c
          rcases Nat.lt_or_ge p L with z | z
          · omega
          · exact absurd (nI_le z (by omega)) c
        · rw [i6 hF, h7] at c
          have hlt : p < L := by
            rcases Nat.lt_or_ge p L with z | z
            · exact z
            · exact absurd (nI_le z (by omega)) c
          rw [itp hF p hlt] at c2
          rcases t4 with ⟨v1, v2, v3⟩ | ⟨v1, v2, v3, v4⟩
          · omega
          · exact absurd c2 v2
    | succ fuel ih =>
      intro p hps hep W hF h7 h11
      refine okX7_go_0 (I0 := fun W1 => FRm V W1 ∧ W1 24 0 7 = nI (p + 1) ∧ W1 24 0 11 = V 24 0 11) (I93 := fun _ _ => False) (I170 := fun _ _ => False) W (fun W1 z => ih (p + 1) (by omega) (by omega) W1 z.1 z.2.1 z.2.2) (fun _ _ q => q.elim) (fun _ _ q => q.elim) ?_
      unfold wpX7_go_0
      refine ⟨fun c => ?_, fun c => ⟨p, h7, by omega, fun c2 => ?_, fun c2 V2 a2 => ⟨?_, ?_, ?_⟩⟩⟩
      · rw [i6 hF, h7] at c
        exact absurd c (nI_ge (by omega) (by omega))
      · rw [itp hF p (by omega)] at c2
        exact absurd (t3 p hep (by omega)) c2
      · rw [a2]; exact hF.mu (by omega)
      · rw [a2, mu_sk, h7, nI_1]
      · rw [a2, mu_sn (by omega), h11]
  exact cl_of [(0, aR 24 0)] (by decide) (fun _ => Nat.le_of_ble_eq_true rfl) (fun _ => rfl) (L0 (st - e) e (by omega) (Nat.le_refl _) V FRm.rf e7 rfl)
end RGO
