/-! ===== texts: the reference's helpers ===== -/
def rnk (c : Int32) : Nat := if c = -1 then 1 else if c = -2 then 2 else if c < -5 then (if c < -7 then (if c < -9 then 6 else 5) else 4) else 3
def nc : List Int32 → Nat
  | [] => 0
  | c :: l => (if c = -10 then 1 else 0) + nc l
def CR (f : NF) (l : List Int32) : Prop := ∀ (i : Nat) (c : Int32), l[i]? = some c → f i = c
def nmx (key : Nat) (c : Int32) : Int32 := if key = 0 then (if c = 119 then 0 else if c = 115 then 1 else if c = 122 then 2 else -1) else if key = 1 then (if c = 104 then 0 else if c = 119 then 1 else -1) else (if c = 119 then 0 else if c = 115 then 1 else -1)
def sgh (c : Int32) : Int32 := if c = 38 then -2 else if c = 42 then -8 else if c = 43 then -6 else if c = 45 then -7 else if c = 47 then -9 else if c = 60 then -3 else if c = 61 then -4 else if c = 62 then -5 else if c = 124 then -1 else 0
def RB (M : Mem) (pr : Nat) (stk code : List Int32) (ao : Nat) (ts : NF) (V : Mem) : Prop := (∀ r i, ¬ (r = 24 ∨ r = 32 ∨ r = 33 ∨ r = 34) → V r i = M r i) ∧ (∀ k, ¬ (k = 7 ∨ k = 8 ∨ k = 9 ∨ k = 10 ∨ k = 11 ∨ k = 16 ∨ k = 17 ∨ k = 19) → V 24 0 k = M 24 0 k) ∧ V 24 0 16 = nI code.length ∧ CR (V 32 0) code ∧ V 24 0 17 = nI ao ∧ V 24 0 19 = nI stk.length ∧ SR (V 33 0) stk ∧ ∀ k, k ≤ pr → V 34 0 k = ts k
def RSt (M : Mem) (tp : NF) (st en so pr : Nat) (stk code : List Int32) (ao : Nat) (ts : NF) (V : Mem) : Prop := RB M pr stk code ao ts V ∧ RT V tp st en so ∧ code.length + stk.length ≤ st
section RSTEPS
variable {d D : Nat} {V W X M X1 M1 : Mem} {P : Option AV → Mem → Prop} {m h T i j k r t u q m1 h1 s p e st en so so0 L st1 en1 so1 pr ao key lst : Nat} {n n1 tp : NF} {a b c x y z kk ss c0 : Int32} {w : Bool} {stk code ops S : List Int32} {ts : NF}
theorem CR.push {f : NF} (h : CR f code) (v : Int32) : CR (upd f code.length v) (code ++ [v]) := by
  intro i c hc
  have hi := (List.getElem?_eq_some_iff.mp hc).1
  rw [List.length_append, List.length_cons, List.length_nil] at hi
  by_cases e : i = code.length
  · subst e
    rw [List.getElem?_append_right (Nat.le_refl _), Nat.sub_self] at hc
    rw [up_s]
    simpa using hc
  · rw [List.getElem?_append_left (by omega)] at hc
    rw [up_n e]
    exact h i c hc
theorem r_rank (hp : P (some (aI (nI (rnk a)))) V) : Cl UM (d + 1) mX7_rank [aI a] V P := by
  refine clX7_rank a V ?_
  unfold wpX7_rank_0
  unfold rnk at hp
  refine ⟨fun c1 => ?_, fun c1 => ?_⟩
  · rw [if_neg c1] at hp
    refine ⟨fun c2 => ?_, fun c2 => ?_⟩
    · rw [if_neg c2] at hp
      refine ⟨fun c3 => ?_, fun c3 => ?_⟩
      · rw [if_pos c3] at hp
        refine ⟨fun c4 => ?_, fun c4 => ?_⟩
        · rw [if_pos c4] at hp
          refine ⟨fun c5 => ?_, fun c5 => ?_⟩
          · rw [if_pos c5] at hp; exact hp
          · rw [if_neg c5] at hp; exact hp
        · rw [if_neg c4] at hp; exact hp
      · rw [if_neg c3] at hp; exact hp
    · rw [if_pos c2] at hp; exact hp
  · rw [if_pos c1] at hp; exact hp
theorem rnk_le : rnk a ≤ 6 := by
  unfold rnk
  split
  · omega
  · split
    · omega
    · split
      · split
        · split <;> omega
        · omega
      · omega
theorem r_settle (ex : x = nI lst) (hl : lst ≤ 6) : ∀ (ops code : List Int32) (V : Mem), V 24 0 19 = nI (ops ++ S).length → SR (V 33 0) (ops ++ S) → V 24 0 16 = nI code.length → CR (V 32 0) code → (∀ c, c ∈ ops → ¬ c = -11 ∧ lst ≤ rnk c) → (S = [] ∨ ∃ c S', S = c :: S' ∧ (c = -11 ∨ rnk c < lst)) → code.length + (ops ++ S).length ≤ 96 →
    (∀ V1, (∀ r i, ¬ (r = 24 ∧ i = 0) → ¬ (r = 32 ∧ i = 0) → V1 r i = V r i) → (∀ k, ¬ k = 16 → ¬ k = 19 → V1 24 0 k = V 24 0 k) → V1 24 0 16 = nI (code ++ ops).length → CR (V1 32 0) (code ++ ops) → V1 24 0 19 = nI S.length → SR (V1 33 0) S → P none V1) → Cl UM (d + 2) mX7_settle [aR 24 0, aI x] V P := by
  intro ops code V h19 hSR h16 hCR hops hS hb hp
  refine cl_of [(0, aR 24 0), (1, aI x)] (by decide) (fun _ => Nat.le_of_ble_eq_true rfl) (fun _ => rfl) ?_
  have LL : ∀ (ops code : List Int32) (W : Mem), W 24 0 19 = nI (ops ++ S).length → SR (W 33 0) (ops ++ S) → W 24 0 16 = nI code.length → CR (W 32 0) code → (∀ c, c ∈ ops → ¬ c = -11 ∧ lst ≤ rnk c) → code.length + (ops ++ S).length ≤ 96 → (∀ V1, (∀ r i, ¬ (r = 24 ∧ i = 0) → ¬ (r = 32 ∧ i = 0) → V1 r i = W r i) → (∀ k, ¬ k = 16 → ¬ k = 19 → V1 24 0 k = W 24 0 k) → V1 24 0 16 = nI (code ++ ops).length → CR (V1 32 0) (code ++ ops) → V1 24 0 19 = nI S.length → SR (V1 33 0) S → P none V1) → Gq (Kp (d + 2) mX7_settle UM P) UM cX7_settle 2 RX7 0 [(0, aR 24 0), (1, aI x)] [] W := by
    intro ops
    induction ops with
    | nil =>
      intro code W h19 hSR h16 hCR hops hb hp
      rw [List.nil_append] at h19 hSR hb
      rw [List.append_nil] at hp
      have fin := hp W (fun _ _ _ _ => rfl) (fun _ _ _ => rfl) h16 hCR h19 hSR
      refine okX7_settle_0 (I0 := fun _ _ => False) x W (fun _ _ q => q.elim) ?_
      unfold wpX7_settle_0
      refine ⟨fun _ => fin, fun c => ?_⟩
      rcases hS with rfl | ⟨c1, S', rfl, hc1⟩
      · exact absurd (by rw [h19]; decide) c
      · obtain ⟨hS1, hS2⟩ := hSR.pop
        rw [List.length_cons] at h19 hb
        refine ⟨S'.length, by rw [h19]; exact nI_pred S'.length, by omega, fun _ => fin, fun n11 => r_rank ⟨_, rfl, fun _ => fin, fun c2 => ?_⟩⟩
        rw [hS2] at n11 c2
        rw [ex] at c2
        exact absurd (nI_lt (hc1.resolve_left n11) (by omega)) c2
    | cons c1 ops ih =>
      intro code W h19 hSR h16 hCR hops hb hp
      rw [List.cons_append] at h19 hSR hb
      rw [List.length_cons] at h19 hb
      obtain ⟨hS1, hS2⟩ := hSR.pop
      obtain ⟨n11, hr⟩ := hops c1 List.mem_cons_self
      refine okX7_settle_0 (I0 := fun y1 W1 => y1 = x ∧ W1 24 0 19 = nI (ops ++ S).length ∧ W1 33 0 = W 33 0 ∧ W1 24 0 16 = nI (code ++ [c1]).length ∧ CR (W1 32 0) (code ++ [c1]) ∧ (∀ r i, ¬ (r = 24 ∧ i = 0) → ¬ (r = 32 ∧ i = 0) → W1 r i = W r i) ∧ (∀ k, ¬ k = 16 → ¬ k = 19 → W1 24 0 k = W 24 0 k)) x W (fun y1 W1 z => ?_) ?_
      · obtain ⟨rfl, z1, z2, z3, z4, z5, z6⟩ := z
        refine ih (code ++ [c1]) W1 z1 (by rw [z2]; exact hS1) z3 z4 (fun c hc => hops c (List.mem_cons_of_mem _ hc)) (by rw [List.length_append, List.length_cons, List.length_nil]; omega) (fun V1 a1 a2 a3 a4 a5 a6 => ?_)
        rw [List.append_assoc, List.singleton_append] at a3 a4
        exact hp V1 (fun r i q1 q2 => by rw [a1 r i q1 q2, z5 r i q1 q2]) (fun k q1 q2 => by rw [a2 k q1 q2, z6 k q1 q2]) a3 a4 a5 a6
      · unfold wpX7_settle_0
        refine ⟨fun c => ?_, fun _ => ⟨(ops ++ S).length, by rw [h19]; exact nI_pred _, by omega, fun c => ?_, fun _ => r_rank ⟨_, rfl, fun c2 => ?_, fun _ V4 e4 => ⟨(ops ++ S).length, ?_, by omega, code.length, ?_, by omega, fun V7 e7 V8 e8 => ⟨rfl, ?_, ?_, ?_, ?_, ?_, ?_⟩⟩⟩⟩⟩
        · rw [h19] at c
          exact absurd c (nI_nle (by omega) (by omega))
        · rw [hS2] at c; exact absurd c n11
        · rw [hS2, ex] at c2
          have := rnk_le (a := c1)
          exact absurd ((nI_ltI (by omega) (by omega)).mp c2) (by omega)
        · rw [e4, mu_sk, h19]; exact nI_pred _
        · rw [e4, mu_sn (by omega), h16]
        · rw [e8, mu_sn (by omega), e7, mu_o (by decide), e4, mu_sk, h19]; exact nI_pred _
        · rw [e8, mu_o (by decide), e7, mu_o (by decide), e4, mu_o (by decide)]
        · rw [e8, mu_sk, e7, mu_o (by decide), e4, mu_sn (by omega), h16, List.length_append, List.length_cons, List.length_nil, nI_1]
        · rw [e8, mu_o (by decide), e7, mu_s, e4, mu_o (by decide), mu_o (by decide), hS2]
          exact hCR.push c1
        · intro r i q1 q2
          rw [e8, mu_eq, ma_ne q1, e7, mu_eq, ma_ne q2, e4, mu_eq, ma_ne q1]
        · intro k q1 q2
          rw [e8, mu_sn q1, e7, mu_o (by decide), e4, mu_sn q2]
  exact LL ops code V h19 hSR h16 hCR hops hb hp
theorem nc_le : ∀ l : List Int32, nc l ≤ l.length
  | [] => Nat.le_refl _
  | c :: l => by
    have := nc_le l
    rw [nc, List.length_cons]
    split <;> omega
theorem r_notsOpen (h19 : V 24 0 19 = nI stk.length) (hl : stk.length ≤ 96) (hSR : SR (V 33 0) stk) (hp : P (some (aI (nI (nc stk)))) V) : Cl UM (d + 1) mX7_notsOpen [aR 24 0] V P := by
  have L : ∀ f k, k + f = stk.length → Gq (Kp (d + 1) mX7_notsOpen UM P) UM cX7_notsOpen 3 RX7 4 [(0, aR 24 0), (1, aI (nI (nc (stk.drop f)))), (2, aI (nI k))] [] V := by
    intro f
    induction f with
    | zero =>
      intro k hk
      refine okX7_notsOpen_4 (I4 := fun _ _ _ => False) _ _ V (fun _ _ _ q => q.elim) ?_
      unfold wpX7_notsOpen_4
      rw [h19]
      exact ⟨fun _ => hp, fun c => absurd (nI_le (by omega) (by omega)) c⟩
    | succ f ih =>
      intro k hk
      refine okX7_notsOpen_4 (I4 := fun y1 y2 W => y1 = nI (nc (stk.drop f)) ∧ y2 = nI (k + 1) ∧ W = V) _ _ V (fun y1 y2 W z => ?_) ?_
      · obtain ⟨rfl, rfl, hW⟩ := z
        rw [hW]
        exact ih (k + 1) (by omega)
      · unfold wpX7_notsOpen_4
        rw [h19]
        have hf : f < stk.length := by omega
        have hd := List.drop_eq_getElem_cons hf
        have e33 : V 33 0 k = stk[f] := by
          have := hSR f stk[f] (List.getElem?_eq_getElem hf)
          rw [show stk.length - 1 - f = k by omega] at this
          exact this
        refine ⟨fun c => absurd c (nI_ge (by omega) (by omega)), fun _ => ⟨k, rfl, by omega, fun c z ez => ⟨?_, nI_1 k, rfl⟩, fun c z ez => ⟨?_, nI_1 k, rfl⟩⟩⟩
        · rw [e33] at c
          rw [ez, hd, nc, if_neg c, Int32.add_zero, Nat.zero_add]
        · rw [e33] at c
          rw [ez, hd, nc, if_pos c, nI_1, Nat.add_comm]
  refine clX7_notsOpen (I4 := fun y1 y2 W => y1 = nI (nc (stk.drop stk.length)) ∧ y2 = nI 0 ∧ W = V) V (fun y1 y2 W z => ?_) ?_
  · obtain ⟨rfl, rfl, hW⟩ := z
    rw [hW]
    exact L stk.length 0 (by omega)
  · unfold wpX7_notsOpen_0
    rw [List.drop_length]
    exact ⟨rfl, rfl, rfl⟩
theorem r_nameOf (e12 : V 24 0 12 = nI key) (hk : key < 3) (hp : P (some (aI (nmx key a))) V) : Cl UM (d + 1) mX7_nameOf [aR 24 0, aI a] V P := by
  refine clX7_nameOf a V ?_
  unfold wpX7_nameOf_0
  rw [e12]
  unfold nmx at hp
  have n0 : (nI key = 0) ↔ key = 0 := nI_eq (b := 0) (by omega) (by omega)
  have n1 : (nI key = 1) ↔ key = 1 := nI_eq (b := 1) (by omega) (by omega)
  refine ⟨fun c => ?_, fun c => ?_, fun c => ?_⟩
  · rw [if_pos (n0.mp c)] at hp
    refine ⟨fun c1 => ⟨fun c2 => ⟨fun c3 => ?_, fun c3 => ?_⟩, fun c2 => ?_⟩, fun c1 => ?_⟩
    · rw [if_neg c1, if_neg c2, if_neg c3] at hp; exact hp
    · rw [if_neg c1, if_neg c2, if_pos c3] at hp; exact hp
    · rw [if_neg c1, if_pos c2] at hp; exact hp
    · rw [if_pos c1] at hp; exact hp
  · have c' := n1.mp c
    rw [if_neg (by omega), if_pos c'] at hp
    refine ⟨fun c1 => ⟨fun c2 => ?_, fun c2 => ?_⟩, fun c1 => ?_⟩
    · rw [if_neg c1, if_neg c2] at hp; exact hp
    · rw [if_neg c1, if_pos c2] at hp; exact hp
    · rw [if_pos c1] at hp; exact hp
  · rw [if_neg (fun z => c.1 (n0.mpr z)), if_neg (fun z => c.2 (n1.mpr z))] at hp
    refine ⟨fun c1 => ⟨fun c2 => ?_, fun c2 => ?_⟩, fun c1 => ?_⟩
    · rw [if_neg c1, if_neg c2] at hp; exact hp
    · rw [if_neg c1, if_pos c2] at hp; exact hp
    · rw [if_pos c1] at hp; exact hp
theorem r_signHere (h3 : V 24 0 9 = 3 → P (some (aI (sgh (V 24 0 10)))) V) (hn : ¬ V 24 0 9 = 3 → P (some (aI 0)) V) : Cl UM (d + 1) mX7_signHere [aR 24 0] V P := by
  refine clX7_signHere V ?_
  unfold wpX7_signHere_0
  refine ⟨fun c => ?_, hn⟩
  have h3 := h3 c
  generalize V 24 0 10 = v at h3 ⊢
  refine ⟨fun q => ?_, fun q => ?_, fun q => ?_, fun q => ?_, fun q => ?_, fun q => ?_, fun q => ?_, fun q => ?_, fun q => ?_, fun q => ?_⟩
  · subst q; exact h3
  · subst q; exact h3
  · subst q; exact h3
  · subst q; exact h3
  · subst q; exact h3
  · subst q; exact h3
  · subst q; exact h3
  · subst q; exact h3
  · subst q; exact h3
  · obtain ⟨q1, q2, q3, q4, q5, q6, q7, q8, q9⟩ := q
    unfold sgh at h3
    rw [if_neg q1, if_neg q2, if_neg q3, if_neg q4, if_neg q5, if_neg q6, if_neg q7, if_neg q8, if_neg q9] at h3
    exact h3
theorem RB.fr (h : RB M pr stk code ao ts V) (hF : FRm V W) : RB M pr stk code ao ts W := by
  obtain ⟨h1, h2, h3, h4, h5, h6, h7, h8⟩ := h
  refine ⟨fun r i q => by rw [hF.1 r i (by omega), h1 r i q], fun k q => by rw [hF.2 k (by omega), h2 k q], by rw [hF.2 16 (by omega), h3], ?_, by rw [hF.2 17 (by omega), h5], by rw [hF.2 19 (by omega), h6], ?_, fun k hk => ?_⟩
  · rw [hF.1 32 0 (by omega)]; exact h4
  · rw [hF.1 33 0 (by omega)]; exact h7
  · rw [hF.1 34 0 (by omega)]; exact h8 k hk
theorem RT.fr (h : RT V tp st en so) (hF : ∀ k, 7 ≤ k → k ≤ 11 → W 24 0 k = V 24 0 k) : RT W tp st en so := by
  unfold RT at h ⊢
  rw [hF 7 (by omega) (by omega), hF 8 (by omega) (by omega), hF 9 (by omega) (by omega), hF 10 (by omega) (by omega), hF 11 (by omega) (by omega)]
  exact h
/-- on to the next word or sign -/
theorem r_goS (e6 : M 24 0 6 = nI L) (hL : L ≤ 96) (htp : ∀ j, j < L → M 29 0 j = tp j) (hB : RB M pr stk code ao ts V) (hT : RT V tp st en so) (hso : so = 1 ∨ so = 2 ∨ so = 3) (hX : Tok tp L en (wd so) st1 en1 so1)
    (hp : ∀ V1, RB M pr stk code ao ts V1 → RT V1 tp st1 en1 so1 → P none V1) : Cl UM (d + 2) mX7_go [aR 24 0] V P := by
  refine r_go (w := wd so) (by rw [hB.2.1 6 (by omega), e6]) hT.2.1 hL (fun j hj => by rw [hB.1 29 0 (by omega), htp j hj]) (fun hw => ?_) (fun hw => ?_) hX (fun V1 hF hT1 => hp V1 (hB.fr hF) hT1)
  · refine hT.2.2.2.2.2.1 ?_
    unfold wd at hw
    rw [Bool.or_eq_true, beq_iff_eq, beq_iff_eq] at hw
    exact hw
  · refine hT.2.2.2.2.2.2 ?_
    unfold wd at hw
    rw [Bool.or_eq_false_iff, beq_eq_false_iff_ne, beq_eq_false_iff_ne] at hw
    omega
end RSTEPS
