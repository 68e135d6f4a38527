/-! ===== texts: words and names in the class ===== -/
def chS (i k : Nat) : Int32 := (bytS.getD i []).getD k 0
def ixL (x : Int32) (i : Nat) : Nat → Nat → Int32
  | 0, _ => -1
  | f + 1, k => if chS i k = x then nI k else ixL x i f (k + 1)
/-- the word of the places st .. en - 1 is the key k -/
def isKw (tp : NF) (st en k : Nat) : Prop := en - st = lenS.getD k 0 ∧ ∀ j, j < lenS.getD k 0 → tp (st + j) = chS k j
theorem chS_ok : ∀ i, i < 6 → ∀ k, k < lenS.getD i 0 → (((chS i k &&& 255) : Int32).toUInt32 % 65536).toInt32 = chS i k ∧ narrow .char (.int (chS i k)) = .int (chS i k) := by
  have h : ∀ i, i < 6 → ∀ k, k < lenS.getD i 0 → (((chS i k &&& 255) : Int32).toUInt32 % 65536).toInt32 = chS i k := by decide +kernel
  intro i hi k hk
  refine ⟨h i hi k hk, ?_⟩
  rw [← h i hi k hk]
  exact pk_nc _
theorem asc : ∀ b, b < 128 → ((nI b).toUInt32 % 65536).toInt32 = nI b ∧ (nI b).toInt8.toInt32 = nI b := by decide +kernel
section WRDS
variable {d D : Nat} {V W X M X1 M1 : Mem} {P : Option AV → Mem → Prop} {m h T i j k r t u q m1 h1 s p e st en so so0 L st1 en1 so1 pr ao key lst : Nat} {n n1 tp ts : NF} {a b c x y z kk ss c0 sg : Int32} {w : Bool} {stk code ops S : List Int32}
theorem x_coder (hi : i < 6) (hp : P (some (aI 0)) V) : Cl UX (d + 1) mJ0_coder_7d493 [aR 61 i] V P := by
  refine clJ0_coder_7d493 i hi V ?_
  unfold wpJ0_coder_7d493_0
  exact ⟨fun c => absurd c (by decide), fun _ => ⟨rfl, hp⟩⟩
theorem x_isLatin1 (hi : i < 6) (hp : P (some (aI 1)) V) : Cl UX (d + 1) mJ0_isLatin1_aae02 [aR 61 i] V P := by
  refine clJ0_isLatin1_aae02 i hi V ?_
  unfold wpJ0_isLatin1_aae02_0
  exact ⟨fun c => absurd c (by decide), fun _ => ⟨fun c => absurd rfl c, fun _ => hp⟩⟩
theorem x_strlen (hi : i < 6) (hp : P (some (aI (nI (lenS.getD i 0)))) V) : Cl UX (d + 2) mJ0_length_8abf5 [aR 61 i] V P := by
  refine clJ0_length_8abf5 i hi V ?_
  unfold wpJ0_length_8abf5_0
  refine x_coder hi ⟨_, rfl, ?_⟩
  have := lenS_le (i := i)
  dsimp only
  rw [pk_shrN (by omega) _ 0 (by decide), Nat.pow_zero, Nat.div_one]
  exact hp
theorem x_checkIndex (ha : a = nI k) (hb : b = nI u) (hk : k < u) (hu : u < 2 ^ 31) (hp : P none V) : Cl UX (d + 2) mJ0_checkIndex_df160 [aI a, aI b] V P := by
  subst ha
  subst hb
  refine clJ0_checkIndex_df160 _ _ V ?_
  unfold wpJ0_checkIndex_df160_0
  refine ⟨?_, ?_⟩
  · refine clJ3_checkIndex_8e157_63 _ _ V ?_
    unfold wpJ3_checkIndex_8e157_63_0
    exact ⟨fun c => nI_pos (by omega) c, fun _ => ⟨fun _ => ⟨_, rfl, hp⟩, fun c => c (nI_lt hk hu)⟩⟩
  · refine clJ3_checkIndex_8e157_N _ _ V ?_
    unfold wpJ3_checkIndex_8e157_N_0
    exact ⟨fun c => nI_pos (by omega) c, fun _ => ⟨fun _ => ⟨_, rfl, hp⟩, fun c => c (nI_lt hk hu)⟩⟩
theorem x_charAt (hi : i < 6) (ha : a = nI k) (hk : k < lenS.getD i 0) (hp : P (some (aI (chS i k))) V) : Cl UX (d + 4) mJ0_charAt_5068e [aR 61 i, aI a] V P := by
  have hl := lenS_le (i := i)
  obtain ⟨e1, e2⟩ := chS_ok i hi k hk
  refine clJ0_charAt_5068e i hi a V ?_
  unfold wpJ0_charAt_5068e_0
  refine x_isLatin1 hi ⟨_, rfl, t1 ?_⟩
  refine clJ1_charAt_3b067 i hi a V ?_
  unfold wpJ1_charAt_3b067_0
  refine x_checkIndex ha rfl hk (by omega) ⟨rfl, k, ha, hk, ?_⟩
  unfold chS at e1 e2 hp
  rw [e1]
  exact ⟨e2, _, rfl, e2, hp⟩
theorem x_ixChar (hi : i < 6) (hb : u < 128) (hp : P (some (aI (ixL (nI u) i (lenS.getD i 0) 0))) V) : Cl UX (d + 1) mJ1_indexOfChar_4cfef [aR 62 i, aI (nI u), aI 0, aI (nI (lenS.getD i 0))] V P := by
  have hl := lenS_le (i := i)
  have L : ∀ f k, k + f = lenS.getD i 0 → P (some (aI (ixL (nI u) i f k))) V → Gq (Kp (d + 1) mJ1_indexOfChar_4cfef UX P) UX cJ1_indexOfChar_4cfef 6 RJ1 7 [(0, aR 62 i), (1, aI (nI u)), (2, aI 0), (3, aI (nI (lenS.getD i 0))), (4, aI (nI u)), (5, aI (nI k))] [] V := by
    intro f
    induction f with
    | zero =>
      intro k hk hp
      refine okJ1_indexOfChar_4cfef_7 (I7 := fun _ _ _ _ _ _ => False) i hi _ _ _ _ _ V (fun _ _ _ _ _ _ q => q.elim) ?_
      unfold wpJ1_indexOfChar_4cfef_7
      exact ⟨fun _ => hp, fun c => absurd (nI_le (by omega) (by omega)) c⟩
    | succ f ih =>
      intro k hk hp
      refine okJ1_indexOfChar_4cfef_7 (I7 := fun y1 y2 y3 y4 y5 W => y1 = nI u ∧ y2 = 0 ∧ y3 = nI (lenS.getD i 0) ∧ y4 = nI u ∧ y5 = nI (k + 1) ∧ W = V ∧ ¬ chS i k = nI u) i hi _ _ _ _ _ V (fun y1 y2 y3 y4 y5 W z => ?_) ?_
      · obtain ⟨rfl, rfl, rfl, rfl, rfl, hW, hc⟩ := z
        rw [hW]
        rw [ixL, if_neg hc] at hp
        exact ih (k + 1) (by omega) hp
      · unfold wpJ1_indexOfChar_4cfef_7
        refine ⟨fun c => absurd c (nI_ge (by omega) (by omega)), fun _ => ⟨k, rfl, by omega, fun c => ⟨rfl, rfl, rfl, rfl, nI_1 k, rfl, c⟩, fun c => ?_⟩⟩
        rw [ixL, if_pos (show chS i k = nI u from c)] at hp
        exact hp
  refine clJ1_indexOfChar_4cfef (I7 := fun y1 y2 y3 y4 y5 W => y1 = nI u ∧ y2 = 0 ∧ y3 = nI (lenS.getD i 0) ∧ y4 = nI u ∧ y5 = nI 0 ∧ W = V) i hi _ _ _ V (fun y1 y2 y3 y4 y5 W z => ?_) ?_
  · obtain ⟨rfl, rfl, rfl, rfl, rfl, hW⟩ := z
    rw [hW]
    exact L (lenS.getD i 0) 0 (by omega) hp
  · unfold wpJ1_indexOfChar_4cfef_0
    intro z ez
    exact ⟨rfl, rfl, rfl, ez.trans (asc u hb).2, rfl, rfl⟩
theorem x_indexOf (hi : i < 6) (h0 : 0 < lenS.getD i 0) (ha : a = nI u) (hb : u < 128) (hp : P (some (aI (ixL (nI u) i (lenS.getD i 0) 0))) V) : Cl UX (d + 4) mJ0_indexOf_0f7a4 [aR 61 i, aI a] V P := by
  have hl := lenS_le (i := i)
  subst ha
  refine clJ0_indexOf_0f7a4 i hi _ V ?_
  unfold wpJ0_indexOf_0f7a4_0
  refine clJ0_indexOf_7cf53 i hi _ _ V ?_
  unfold wpJ0_indexOf_7cf53_0
  refine x_isLatin1 hi ⟨_, rfl, t1 (x_strlen hi ⟨_, rfl, ?_⟩)⟩
  refine clJ1_indexOf_4cfef i hi _ _ _ V ?_
  unfold wpJ1_indexOf_4cfef_0
  refine clJ1_canEncode_9a6ad _ V ?_
  unfold wpJ1_canEncode_9a6ad_0
  refine ⟨fun c => absurd c (nI_pos (by omega)), fun _ => ⟨fun c => absurd c (nI_nlt (a := 255) (b := u) (by omega) (by omega)), fun _ => ⟨_, rfl, t2 (fun z3 e3 z4 e4 => ?_)⟩⟩⟩
  rw [ite_self] at e4
  have e3 : z3 = 0 := e3
  subst e3
  subst e4
  exact ⟨fun _ => x_ixChar hi hb ⟨_, rfl, _, rfl, _, rfl, hp⟩, fun c => absurd (nI_lt (a := 0) h0 (by omega)) c⟩
theorem ix3 : ixL c 3 3 0 = nmx 0 c ∧ ixL c 4 2 0 = nmx 1 c ∧ ixL c 5 2 0 = nmx 2 c := by
  have e : ∀ {x y : Int32} {A B : Int32}, (if x = y then A else B) = (if y = x then A else B) := by
    intro x y A B
    by_cases q : x = y
    · rw [if_pos q, if_pos q.symm]
    · rw [if_neg q, if_neg (fun z => q z.symm)]
  refine ⟨?_, ?_, ?_⟩
  · show (if (119 : Int32) = c then nI 0 else if (115 : Int32) = c then nI 1 else if (122 : Int32) = c then nI 2 else -1) = (if c = 119 then 0 else if c = 115 then 1 else if c = 122 then 2 else -1)
    rw [e, e (x := 115), e (x := 122)]
    rfl
  · show (if (104 : Int32) = c then nI 0 else if (119 : Int32) = c then nI 1 else -1) = (if c = 104 then 0 else if c = 119 then 1 else -1)
    rw [e, e (x := 119)]
    rfl
  · show (if (119 : Int32) = c then nI 0 else if (115 : Int32) = c then nI 1 else -1) = (if c = 119 then 0 else if c = 115 then 1 else -1)
    rw [e, e (x := 115)]
    rfl
theorem srt1 (h : srt c = 1) : ∃ u, u < 128 ∧ c = nI u := by
  unfold srt at h
  by_cases q : 97 ≤ c ∧ c ≤ 122
  · have q1 := ti_le.mp q.1
    have q2 := ti_le.mp q.2
    rw [show (97 : Int32).toInt = 97 from rfl] at q1
    rw [show (122 : Int32).toInt = 122 from rfl] at q2
    obtain ⟨u, h1, h2⟩ := nI_of (x := c) (by rw [ti_lt, ti0]; omega)
    rw [h2, nI_toInt h1] at q2
    exact ⟨u, by omega, h2⟩
  · rw [if_neg q] at h
    split at h <;> omega
theorem x_nameRead (e5 : V 6 0 5 = nI st) (e6 : V 6 0 6 = nI en) (e3 : V 6 0 3 = nI key) (hk : key < 3) (hse : st ≤ en) (hst : st < 96) (hen : en ≤ 96) (e17 : V 17 0 st = tp st) (hs : srt (tp st) = 1)
    (hp : P (some (aI (if en - st = 1 then nmx key (tp st) else -1))) V) : Cl UX (d + 6) mX1_nameRead [aR 6 0] V P := by
  refine clX1_nameRead V ?_
  unfold wpX1_nameRead_0
  rw [e5, e6, pk_sub hse, e3]
  have n1 : (nI (en - st) = 1) ↔ en - st = 1 := nI_eq (b := 1) (by omega) (by omega)
  refine ⟨fun c => ?_, fun c => ?_⟩
  · rw [if_neg (fun z => c (n1.mpr z))] at hp; exact hp
  · rw [if_pos (n1.mp c)] at hp
    obtain ⟨u, hu, eu⟩ := srt1 hs
    have ea : ((V 17 0 st).toUInt32 % 65536).toInt32 = nI u := by rw [e17, eu, (asc u hu).1]
    rw [eu] at hp
    refine clX1_namesOf _ V ?_
    unfold wpX1_namesOf_0
    have k0 : (nI key = 0) ↔ key = 0 := nI_eq (b := 0) (by omega) (by omega)
    have k1 : (nI key = 1) ↔ key = 1 := nI_eq (b := 1) (by omega) (by omega)
    have i3 := ix3 (c := nI u)
    refine ⟨fun c => ⟨3, rfl, by omega, st, e5, hst, x_indexOf (by omega) (by decide) ea hu ⟨_, rfl, ?_⟩⟩, fun c => ⟨4, rfl, by omega, st, e5, hst, x_indexOf (by omega) (by decide) ea hu ⟨_, rfl, ?_⟩⟩, fun c => ⟨5, rfl, by omega, st, e5, hst, x_indexOf (by omega) (by decide) ea hu ⟨_, rfl, ?_⟩⟩⟩
    · rw [k0.mp c, ← i3.1] at hp; exact hp
    · rw [k1.mp c, ← i3.2.1] at hp; exact hp
    · have : key = 2 := by
        have h0 : ¬ key = 0 := fun z => c.1 (k0.mpr z)
        have h1 : ¬ key = 1 := fun z => c.2 (k1.mpr z)
        omega
      rw [this, ← i3.2.2] at hp; exact hp
theorem x_isWord (hk : k < 3) (e5 : V 6 0 5 = nI st) (e6 : V 6 0 6 = nI en) (e7 : V 6 0 7 = nI so) (hso : so ≤ 4) (hse : st ≤ en) (hen : en ≤ 96) (e17 : ∀ j, j < en → V 17 0 j = tp j) (hT : so = 1 → isKw tp st en k → P (some (aI 1)) V) (hF : ¬ (so = 1 ∧ isKw tp st en k) → P (some (aI 0)) V) : Cl UX (d + 5) mX1_isWord [aR 6 0, aR 61 k] V P := by
  have hl := lenS_le (i := k)
  have n1 : (nI so = 1) ↔ so = 1 := nI_eq (b := 1) (by omega) (by omega)
  have L : so = 1 → en - st = lenS.getD k 0 → ∀ f q, q + f = lenS.getD k 0 → (∀ j, j < q → tp (st + j) = chS k j) → Gq (Kp (d + 5) mX1_isWord UX P) UX cX1_isWord 3 RX1 28 [(0, aR 6 0), (1, aR 61 k), (2, aI (nI q))] [] V := by
    intro s1 hlen f
    induction f with
    | zero =>
      intro q hq hj
      refine okX1_isWord_28 (I28 := fun _ _ => False) k (by omega) _ V (fun _ _ q => q.elim) ?_
      unfold wpX1_isWord_28
      refine x_strlen (by omega) ⟨_, rfl, fun _ => hT s1 ⟨hlen, fun j hj' => hj j (by omega)⟩, fun c => absurd (nI_le (by omega) (by omega)) c⟩
    | succ f ih =>
      intro q hq hj
      refine okX1_isWord_28 (I28 := fun y W => y = nI (q + 1) ∧ W = V ∧ tp (st + q) = chS k q) k (by omega) _ V (fun y W z => ?_) ?_
      · obtain ⟨rfl, hW, hc⟩ := z
        rw [hW]
        refine ih (q + 1) (by omega) (fun j hj' => ?_)
        by_cases ej : j = q
        · rw [ej]; exact hc
        · exact hj j (by omega)
      · unfold wpX1_isWord_28
        refine x_strlen (by omega) ⟨_, rfl, fun c => absurd c (nI_ge (by omega) (by omega)), fun _ => ⟨st + q, by rw [e5, nI_add], by omega, x_charAt (by omega) rfl (by omega) ⟨_, rfl, fun c => ⟨nI_1 q, rfl, ?_⟩, fun c => hF (fun z => c ?_)⟩⟩⟩
        · rw [← e17 _ (by omega)]; exact c
        · rw [e17 _ (by omega)]; exact z.2.2 q (by omega)
  by_cases s1 : so = 1
  · by_cases hlen : en - st = lenS.getD k 0
    · refine clX1_isWord (I28 := fun y W => y = nI 0 ∧ W = V) k (by omega) V (fun y W z => ?_) ?_
      · obtain ⟨rfl, hW⟩ := z
        rw [hW]
        exact L s1 hlen (lenS.getD k 0) 0 (by omega) (fun j hj => absurd hj (by omega))
      · unfold wpX1_isWord_0
        rw [e7, e6, e5, pk_sub hse, hlen]
        exact ⟨fun c => absurd (n1.mpr s1) c, fun _ => x_strlen (by omega) ⟨_, rfl, fun _ => ⟨rfl, rfl⟩, fun c => absurd rfl c⟩⟩
    · refine clX1_isWord (I28 := fun _ _ => False) k (by omega) V (fun _ _ q => q.elim) ?_
      unfold wpX1_isWord_0
      rw [e7, e6, e5, pk_sub hse]
      exact ⟨fun _ => hF (fun z => hlen z.2.1), fun _ => x_strlen (by omega) ⟨_, rfl, fun c => absurd ((nI_eq (by omega) (by omega)).mp c) hlen, fun _ => hF (fun z => hlen z.2.1)⟩⟩
  · refine clX1_isWord (I28 := fun _ _ => False) k (by omega) V (fun _ _ q => q.elim) ?_
    unfold wpX1_isWord_0
    rw [e7]
    exact ⟨fun _ => hF (fun z => s1 z.1), fun c => absurd (n1.mp c) s1⟩
theorem x_readKey (e5 : V 6 0 5 = nI st) (e6 : V 6 0 6 = nI en) (e7 : V 6 0 7 = nI so) (hso : so ≤ 4) (hse : st ≤ en) (hL : L ≤ 96) (hen : en ≤ L) (e8 : V 6 0 8 = nI L) (e17 : ∀ j, j < L → V 17 0 j = tp j)
    (hT : ∀ k, k < 3 → so = 1 → isKw tp st en k → (∀ j, j < k → ¬ isKw tp st en j) → ∀ st1 en1 so1, Tok tp L en true st1 en1 so1 → P (some (aI 1)) (ma V 6 0 (tkf (upd (V 6 0) 3 (nI k)) st1 en1 so1))) (hF : (¬ so = 1 ∨ ∀ k, k < 3 → ¬ isKw tp st en k) → P (some (aI 0)) V) : Cl UX (d + 6) mX1_readKey [aR 6 0] V P := by
  have Lp : ∀ f k, k + f = 3 → (so = 1 → ∀ j, j < k → ¬ isKw tp st en j) → Gq (Kp (d + 6) mX1_readKey UX P) UX cX1_readKey 2 RX1 2 [(0, aR 6 0), (1, aI (nI k))] [] V := by
    intro f
    induction f with
    | zero =>
      intro k hk hn
      have hk : k = 3 := by omega
      subst hk
      refine okX1_readKey_2 (I2 := fun _ _ => False) _ V (fun _ _ q => q.elim) ?_
      unfold wpX1_readKey_2
      refine ⟨fun _ => hF ?_, fun c => absurd (by decide) c⟩
      by_cases s1 : so = 1
      · exact Or.inr (hn s1)
      · exact Or.inl s1
    | succ f ih =>
      intro k hk hn
      refine okX1_readKey_2 (I2 := fun y W => y = nI (k + 1) ∧ W = V ∧ (so = 1 → ¬ isKw tp st en k)) _ V (fun y W z => ?_) ?_
      · obtain ⟨rfl, hW, hc⟩ := z
        rw [hW]
        refine ih (k + 1) (by omega) (fun s1 j hj => ?_)
        by_cases ej : j = k
        · rw [ej]; exact hc s1
        · exact hn s1 j (by omega)
      · unfold wpX1_readKey_2
        refine ⟨fun c => absurd c (nI_ge (b := 3) (by omega) (by omega)), fun _ => ?_⟩
        refine clX1_keyWord _ V ?_
        unfold wpX1_keyWord_0
        have K : cI (Cl UX (d + 5)) mX1_isWord [aR 6 0, aR 61 k] V (fun x_4 V_3 => ((x_4 = 0 → nI k + 1 = nI (k + 1) ∧ V_3 = V ∧ (so = 1 → ¬ isKw tp st en k)) ∧ (¬ x_4 = 0 → (∀ V_5 : Mem, V_5 = mu V_3 6 0 3 (nI k) → (cV (Cl UX (d + 5)) mX1_goOn [aR 6 0] V_5 (fun V_6 => P (some (aI 1)) V_6)))))) := by
          refine x_isWord (by omega) e5 e6 e7 hso hse (by omega) (fun j hj => e17 j (by omega)) (fun s1 hw => ⟨_, rfl, t1 (fun V5 a5 => ?_)⟩) (fun no => ⟨_, rfl, f1 ⟨nI_1 k, rfl, fun s1 hw => no ⟨s1, hw⟩⟩⟩)
          refine x_goOn (w := true) (e := en) (so0 := so) (L := L) (tp := tp) ?_ ?_ hso ?_ ?_ hL hen (fun j hj => ?_) (fun st1 en1 so1 hX => ⟨rfl, ?_⟩)
          · rw [a5, mu_sn (by omega), e6]
          · rw [a5, mu_sn (by omega), e7]
          · rw [s1]; rfl
          · rw [a5, mu_sn (by omega), e8]
          · rw [a5, mu_o (by decide), e17 j hj]
          · have := hT k (by omega) s1 hw (hn s1) st1 en1 so1 hX
            rw [a5, mu_s, mu_eq, ma_ma]
            exact this
        have k0 : (nI k = 0) ↔ k = 0 := nI_eq (b := 0) (by omega) (by omega)
        have k1 : (nI k = 1) ↔ k = 1 := nI_eq (b := 1) (by omega) (by omega)
        refine ⟨fun c => ⟨k, by rw [k0.mp c], by omega, K⟩, fun c => ⟨k, by rw [k1.mp c], by omega, K⟩, fun c => ⟨k, ?_, by omega, K⟩⟩
        have h0 : ¬ k = 0 := fun z => c.1 (k0.mpr z)
        have h1 : ¬ k = 1 := fun z => c.2 (k1.mpr z)
        rw [show k = 2 by omega]
  refine clX1_readKey (I2 := fun y W => y = nI 0 ∧ W = V) V (fun y W z => ?_) ?_
  · obtain ⟨rfl, hW⟩ := z
    rw [hW]
    exact Lp 3 0 (by omega) (fun _ j hj => absurd hj (by omega))
  · unfold wpX1_readKey_0
    exact ⟨rfl, rfl⟩
end WRDS
