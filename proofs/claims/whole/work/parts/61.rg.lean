/-! ===== texts: the turns of the reference's loop ===== -/
/-- a number or a name stands there: its code -/
def isPart (tp : NF) (key st en so : Nat) (c0 : Int32) : Prop := (so = 2 ∧ en - st ≤ 4 ∧ c0 = numv tp st (en - st)) ∨ (so = 1 ∧ en - st = 1 ∧ ¬ nmx key (tp st) < 0 ∧ c0 = 10000 + nmx key (tp st))
def rpl (k : Nat) : List Int32 := List.replicate k (-10)
def topn (S : List Int32) : Prop := S = [] ∨ ∃ c S', S = c :: S' ∧ (c = -11 ∨ rnk c < 6)
def RG (d : Nat) (P : Option AV → Mem → Prop) (M : Mem) (tp : NF) (st en so : Nat) (wn : Int32) (pr : Nat) (stk code : List Int32) (ao : Nat) (ts : NF) : Prop :=
  ∀ V, RSt M tp st en so pr stk code ao ts V → Gq (Kp (d + 6) mX7_takesE UM P) UM cX7_takesE 5 RX7 28 [(0, aR 24 0), (1, aI (nI pr)), (2, aI (nI (nc stk))), (3, aI wn)] [] V
def RF (M : Mem) (st : Nat) (V : Mem) : Prop := (∀ r i, ¬ (r = 24 ∨ r = 32 ∨ r = 33 ∨ r = 34) → V r i = M r i) ∧ (∀ k, ¬ (k = 7 ∨ k = 8 ∨ k = 9 ∨ k = 10 ∨ k = 11 ∨ k = 16 ∨ k = 17 ∨ k = 19) → V 24 0 k = M 24 0 k) ∧ V 24 0 8 = nI st
def RD (M : Mem) (code : List Int32) (ao : Nat) (V : Mem) : Prop := (∀ r i, ¬ (r = 24 ∨ r = 32 ∨ r = 33 ∨ r = 34) → V r i = M r i) ∧ (∀ k, ¬ (k = 7 ∨ k = 8 ∨ k = 9 ∨ k = 10 ∨ k = 11 ∨ k = 16 ∨ k = 17 ∨ k = 19) → V 24 0 k = M 24 0 k) ∧ V 24 0 16 = nI code.length ∧ CR (V 32 0) code ∧ V 24 0 17 = nI ao
/-- what stays the same while a text is read -/
def Rx (M : Mem) (tp : NF) (L key : Nat) : Prop := M 24 0 6 = nI L ∧ L ≤ 96 ∧ (∀ j, j < L → M 29 0 j = tp j) ∧ M 24 0 12 = nI key ∧ key < 3
section RGS
variable {d D : Nat} {V W X M X1 M1 : Mem} {P : Option AV → Mem → Prop} {m h T i j k r t u q m1 h1 s p e st en so so0 L st1 en1 so1 pr ao key lst : Nat} {n n1 tp : NF} {a b c x y z kk ss c0 sg : Int32} {w : Bool} {stk code ops S : List Int32} {ts : NF}
theorem rpl_mem (hc : c ∈ rpl k) : c = -10 := (List.mem_replicate.mp hc).2
theorem rnk_m10 : rnk (-10) = 6 := by decide
theorem nc_app : ∀ l l' : List Int32, nc (l ++ l') = nc l + nc l'
  | [], l' => by rw [List.nil_append, nc, Nat.zero_add]
  | c :: l, l' => by rw [List.cons_append, nc, nc, nc_app l l', Nat.add_assoc]
theorem nc_ops : ∀ l : List Int32, (∀ c, c ∈ l → ¬ c = -10) → nc l = 0
  | [], _ => rfl
  | c :: l, h => by rw [nc, if_neg (h c List.mem_cons_self), nc_ops l (fun c hc => h c (List.mem_cons_of_mem _ hc))]
theorem tk_of (hT : RT V tp st en so) (hso : so ≤ 4) : (V 24 0 9 = 3 ↔ so = 3) ∧ (V 24 0 9 = 0 ↔ so = 0) ∧ (V 24 0 9 = 1 ↔ so = 1) ∧ (V 24 0 9 = 2 ↔ so = 2 ∧ en - st ≤ 4) := by
  rw [hT.2.2.1]
  by_cases q : so = 2 ∧ 4 < en - st
  · rw [if_pos q]
    refine ⟨⟨fun z => absurd z (by decide), fun z => by omega⟩, ⟨fun z => absurd z (by decide), fun z => by omega⟩, ⟨fun z => absurd z (by decide), fun z => by omega⟩, ⟨fun z => absurd z (by decide), fun z => by omega⟩⟩
  · rw [if_neg q]
    refine ⟨nI_eq (b := 3) (by omega) (by omega), nI_eq (b := 0) (by omega) (by omega), nI_eq (b := 1) (by omega) (by omega), ?_⟩
    have := nI_eq (a := so) (b := 2) (by omega) (by omega)
    exact ⟨fun z => ⟨this.mp z, by have := this.mp z; omega⟩, fun z => this.mpr z.1⟩
/-- the stack and what is told of it -/
theorem r_takesPart (hx : Rx M tp L key) (hso : so ≤ 4) (hst : so = 0 ∨ (st < L ∧ st < en ∧ en ≤ L)) (hB : RB M pr stk code ao ts V) (hT : RT V tp st en so) (hb : code.length + stk.length ≤ st)
    (hP : ∀ c0, isPart tp key st en so c0 → ∃ k S st1 en1 so1, stk = rpl k ++ S ∧ topn S ∧ Tok tp L en (wd so) st1 en1 so1 ∧ ∀ V1, RB M pr S (code ++ c0 :: rpl k) (ao + 1) ts V1 → RT V1 tp st1 en1 so1 → P (some (aI 1)) V1)
    (hN : (∀ c0, ¬ isPart tp key st en so c0) → P (some (aI 0)) V) : Cl UM (d + 3) mX7_takesPart [aR 24 0] V P := by
  obtain ⟨x6, xL, xtp, x12, xk⟩ := hx
  obtain ⟨k3, k0, k1, k2⟩ := tk_of hT hso
  obtain ⟨b1, b2, b3, b4, b5, b6, b7, b8⟩ := id hB
  have v12 : V 24 0 12 = nI key := by rw [b2 12 (by omega), x12]
  have v78 : V 24 0 7 - V 24 0 8 = nI (en - st) ∨ so = 0 := by
    rcases hst with q | q
    · exact Or.inr q
    · rw [hT.1, hT.2.1]; exact Or.inl (pk_sub (by omega))
  have K : ∀ c0, isPart tp key st en so c0 → ∀ x1, wpX7_takesPart_87 (Cl UM (d + 2)) x1 c0 (V 24 0 16) V P := by
    intro c0 hc0 x1
    obtain ⟨k, S, st1, en1, so1, e1, hS, hX, hp⟩ := hP c0 hc0
    have hso' : so = 1 ∨ so = 2 ∨ so = 3 := by rcases hc0 with q | q <;> omega
    have hlt := hst.resolve_left (by omega)
    unfold wpX7_takesPart_87
    refine ⟨code.length, b3, by omega, fun V2 a2 V3 a3 V4 a4 => ?_⟩
    have f24 : ∀ q, ¬ q = 16 → ¬ q = 17 → V4 24 0 q = V 24 0 q := fun q q1 q2 => by rw [a4, mu_sn q2, a3, mu_sn q1, a2, mu_o (by decide)]
    have fo : ∀ r i, ¬ (r = 24 ∧ i = 0) → ¬ (r = 32 ∧ i = 0) → V4 r i = V r i := fun r i q1 q2 => by rw [a4, mu_eq, ma_ne q1, a3, mu_eq, ma_ne q1, a2, mu_eq, ma_ne q2]
    refine r_settle (lst := 6) (S := S) rfl (Nat.le_refl _) (rpl k) (code ++ [c0]) V4 ?_ ?_ ?_ ?_ ?_ ?_ ?_ (fun V5 g1 g2 g3 g4 g5 g6 => ⟨rfl, ?_⟩)
    · rw [f24 19 (by omega) (by omega), b6, e1]
    · rw [fo 33 0 (by omega) (by omega), ← e1]; exact b7
    · rw [a4, mu_sn (by omega), a3, mu_sk, a2, mu_o (by decide), b3, nI_1, List.length_append, List.length_cons, List.length_nil]
    · rw [a4, mu_o (by decide), a3, mu_o (by decide), a2, mu_s]
      exact b4.push c0
    · intro c hc
      rw [rpl_mem hc]
      exact ⟨by decide, by rw [rnk_m10]; exact Nat.le_refl _⟩
    · exact hS
    · rw [← e1, List.length_append, List.length_cons, List.length_nil]; omega
    · have hB5 : RB M pr S (code ++ c0 :: rpl k) (ao + 1) ts V5 := by
        rw [List.append_assoc, List.singleton_append] at g3 g4
        refine ⟨fun r i q => by rw [g1 r i (by omega) (by omega), fo r i (by omega) (by omega), b1 r i q], fun k q => by rw [g2 k (by omega) (by omega), f24 k (by omega) (by omega), b2 k q], g3, g4, ?_, g5, g6, fun k hk => ?_⟩
        · rw [g2 17 (by omega) (by omega), a4, mu_sk, a3, mu_sn (by omega), a2, mu_o (by decide), b5, nI_1]
        · rw [g1 34 0 (by omega) (by omega), fo 34 0 (by omega) (by omega), b8 k hk]
      have hT5 : RT V5 tp st en so := hT.fr (fun k q1 q2 => by rw [g2 k (by omega) (by omega), f24 k (by omega) (by omega)])
      exact r_goS x6 xL xtp hB5 hT5 hso' hX (fun V6 i1 i2 => ⟨rfl, hp V6 i1 i2⟩)
  refine clX7_takesPart V ?_
  unfold wpX7_takesPart_0 wpX7_takesPart_36 wpX7_takesPart_37 wpX7_takesPart_52
  have Z36 : ¬ (so = 1 ∧ en - st = 1 ∧ ¬ nmx key (tp st) < 0) → (((V 24 0 9) = 2 → ((¬ (V 24 0 9) = 2 → (cI (Cl UM (d + 2)) mX7_nameOf [aR 24 0, aI (V 24 0 10)] V (fun x_2 V_1 => wpX7_takesPart_87 (Cl UM (d + 2)) 0 (10000 + x_2) (V 24 0 16) V_1 P))) ∧ ((V 24 0 9) = 2 → wpX7_takesPart_87 (Cl UM (d + 2)) 0 (V 24 0 10) (V 24 0 16) V P))) ∧ (¬ (V 24 0 9) = 2 → ((¬ (0 : Int32) = 0 → ((¬ (V 24 0 9) = 2 → (cI (Cl UM (d + 2)) mX7_nameOf [aR 24 0, aI (V 24 0 10)] V (fun x_2 V_1 => wpX7_takesPart_87 (Cl UM (d + 2)) 0 (10000 + x_2) (V 24 0 16) V_1 P))) ∧ ((V 24 0 9) = 2 → wpX7_takesPart_87 (Cl UM (d + 2)) 0 (V 24 0 10) (V 24 0 16) V P))) ∧ ((0 : Int32) = 0 → P (some (aI 0)) V)))) := by
    intro nn
    refine ⟨fun c => ⟨fun q => absurd c q, fun _ => ?_⟩, fun c => ⟨fun q => absurd rfl q, fun _ => hN (fun c0 hc0 => ?_)⟩⟩
    · obtain ⟨q1, q2⟩ := k2.mp c
      rw [hT.2.2.2.2.1 q1 q2]
      exact K _ (Or.inl ⟨q1, q2, rfl⟩) _
    · rcases hc0 with q | q
      · exact c (k2.mpr ⟨q.1, q.2.1⟩)
      · exact nn ⟨q.1, q.2.1, q.2.2.1⟩
  refine ⟨fun c => Z36 (fun q => c (k1.mpr q.1)), fun c => ?_⟩
  have s1 : so = 1 := k1.mp c
  rw [v78.resolve_right (by omega)]
  refine ⟨fun c2 => Z36 (fun q => c2 (by rw [q.2.1]; rfl)), fun c2 => ?_⟩
  have l1 : en - st = 1 := by
    have := hst.resolve_left (by omega)
    exact (nI_eq (b := 1) (by omega) (by omega)).mp c2
  have v10 : V 24 0 10 = tp st := hT.2.2.2.1 (Or.inl s1)
  rw [v10]
  refine r_nameOf v12 xk ⟨_, rfl, fun c3 => Z36 (fun q => q.2.2 c3), fun c3 => ⟨fun q => ?_, fun q => ⟨fun _ => ⟨fun _ => ?_, fun z => absurd z q⟩, fun z => absurd z (by decide)⟩⟩⟩
  · have := (k2.mp q).1; omega
  · rw [v10]
    exact r_nameOf v12 xk ⟨_, rfl, K _ (Or.inr ⟨s1, l1, c3, rfl⟩) _⟩
/-- a turn that wants a piece, and finds a sign that opens one -/
theorem S_not (hx : Rx M tp L key) (hso : so = 3) (h33 : tp st = 33) (hn : nc stk < 8) (hlt : st < L ∧ st < en ∧ en ≤ L) (hX : Tok tp L en (wd so) st1 en1 so1) (hG : RG d P M tp st1 en1 so1 1 pr (-10 :: stk) code ao ts) : RG d P M tp st en so 1 pr stk code ao ts := by
  obtain ⟨x6, xL, xtp, x12, xk⟩ := hx
  intro V hV
  obtain ⟨hB, hT, hb⟩ := hV
  obtain ⟨b1, b2, b3, b4, b5, b6, b7, b8⟩ := id hB
  have k3 := (tk_of hT (by omega)).1
  have v10 : V 24 0 10 = 33 := by rw [hT.2.2.2.1 (Or.inr hso), h33]
  have hle := hX.le
  refine okX7_takesE_28 (I28 := fun y1 y2 y3 W => y1 = nI pr ∧ y2 = nI (nc (-10 :: stk)) ∧ y3 = 1 ∧ RSt M tp st1 en1 so1 pr (-10 :: stk) code ao ts W) _ _ _ V (fun y1 y2 y3 W z => ?_) ?_
  · obtain ⟨rfl, rfl, rfl, hW⟩ := z
    exact hG W hW
  · unfold wpX7_takesE_28 wpX7_takesE_39
    refine t2 (t1 ⟨fun q => absurd (k3.mpr hso) q, fun _ => ⟨fun q => absurd v10 q, fun _ => ⟨fun q => ?_, fun _ => ⟨stk.length, b6, by omega, fun V11 a11 V12 a12 => ?_⟩⟩⟩⟩)
    · exact absurd q (nI_ge (b := 8) hn (by omega))
    · have hB12 : RB M pr (-10 :: stk) code ao ts V12 := by
        refine ⟨fun r i q => ?_, fun k q => ?_, ?_, ?_, ?_, ?_, ?_, fun k hk => ?_⟩
        · rw [a12, mu_o (by omega), a11, mu_o (by omega), b1 r i q]
        · rw [a12, mu_sn (by omega), a11, mu_o (by decide), b2 k q]
        · rw [a12, mu_sn (by omega), a11, mu_o (by decide), b3]
        · rw [a12, mu_o (by decide), a11, mu_o (by decide)]; exact b4
        · rw [a12, mu_sn (by omega), a11, mu_o (by decide), b5]
        · rw [a12, mu_sk, a11, mu_o (by decide), b6, nI_1, List.length_cons]
        · rw [a12, mu_o (by decide), a11, mu_s]; exact b7.push (-10)
        · rw [a12, mu_o (by decide), a11, mu_o (by decide), b8 k hk]
      have hT12 : RT V12 tp st en so := hT.fr (fun k q1 q2 => by rw [a12, mu_sn (by omega), a11, mu_o (by decide)])
      refine r_goS x6 xL xtp hB12 hT12 (by omega) hX (fun V13 i1 i2 => ⟨rfl, ?_⟩)
      refine r_notsOpen (stk := -10 :: stk) i1.2.2.2.2.2.1 (by rw [List.length_cons]; omega) i1.2.2.2.2.2.2.1 ⟨_, rfl, rfl, rfl, rfl, i1, i2, ?_⟩
      rw [List.length_cons]; omega
theorem S_open (hx : Rx M tp L key) (hso : so = 3) (h40 : tp st = 40) (hn : pr < 8) (hlt : st < L ∧ st < en ∧ en ≤ L) (hX : Tok tp L en (wd so) st1 en1 so1) (hG : RG d P M tp st1 en1 so1 1 (pr + 1) (-11 :: stk) code ao (upd ts (pr + 1) 0)) : RG d P M tp st en so 1 pr stk code ao ts := by
  obtain ⟨x6, xL, xtp, x12, xk⟩ := hx
  intro V hV
  obtain ⟨hB, hT, hb⟩ := hV
  obtain ⟨b1, b2, b3, b4, b5, b6, b7, b8⟩ := id hB
  have k3 := (tk_of hT (by omega)).1
  have v10 : V 24 0 10 = 40 := by rw [hT.2.2.2.1 (Or.inr hso), h40]
  have hle := hX.le
  refine okX7_takesE_28 (I28 := fun y1 y2 y3 W => y1 = nI (pr + 1) ∧ y2 = nI (nc (-11 :: stk)) ∧ y3 = 1 ∧ RSt M tp st1 en1 so1 (pr + 1) (-11 :: stk) code ao (upd ts (pr + 1) 0) W) _ _ _ V (fun y1 y2 y3 W z => ?_) ?_
  · obtain ⟨rfl, rfl, rfl, hW⟩ := z
    exact hG W hW
  · unfold wpX7_takesE_28 wpX7_takesE_39 wpX7_takesE_97
    refine t2 (t1 ⟨fun q => absurd (k3.mpr hso) q, fun _ => ⟨fun _ => ⟨fun q => absurd (k3.mpr hso) q, fun _ => ⟨fun q => absurd v10 q, fun _ => ⟨fun q => ?_, fun _ => ⟨stk.length, b6, by omega, fun V2 a2 V3 a3 => ⟨pr + 1, nI_1 pr, by omega, fun V5 a5 => ?_⟩⟩⟩⟩⟩, fun q => ?_⟩⟩)
    · exact absurd q (nI_ge (b := 8) hn (by omega))
    · have hB5 : RB M (pr + 1) (-11 :: stk) code ao (upd ts (pr + 1) 0) V5 := by
        refine ⟨fun r i q => ?_, fun k q => ?_, ?_, ?_, ?_, ?_, ?_, fun k hk => ?_⟩
        · rw [a5, mu_o (by omega), a3, mu_o (by omega), a2, mu_o (by omega), b1 r i q]
        · rw [a5, mu_o (by decide), a3, mu_sn (by omega), a2, mu_o (by decide), b2 k q]
        · rw [a5, mu_o (by decide), a3, mu_sn (by omega), a2, mu_o (by decide), b3]
        · rw [a5, mu_o (by decide), a3, mu_o (by decide), a2, mu_o (by decide)]; exact b4
        · rw [a5, mu_o (by decide), a3, mu_sn (by omega), a2, mu_o (by decide), b5]
        · rw [a5, mu_o (by decide), a3, mu_sk, a2, mu_o (by decide), b6, nI_1, List.length_cons]
        · rw [a5, mu_o (by decide), a3, mu_o (by decide), a2, mu_s]; exact b7.push (-11)
        · by_cases e : k = pr + 1
          · rw [e, a5, mu_sk, up_s]
          · rw [up_n e, a5, mu_sn e, a3, mu_o (by decide), a2, mu_o (by decide), b8 k (by omega)]
      have hT5 : RT V5 tp st en so := hT.fr (fun k q1 q2 => by rw [a5, mu_o (by decide), a3, mu_sn (by omega), a2, mu_o (by decide)])
      refine r_goS x6 xL xtp hB5 hT5 (by omega) hX (fun V6 i1 i2 => ⟨rfl, ?_⟩)
      refine r_notsOpen (stk := -11 :: stk) i1.2.2.2.2.2.1 (by rw [List.length_cons]; omega) i1.2.2.2.2.2.2.1 ⟨_, rfl, nI_1 pr, rfl, rfl, i1, i2, ?_⟩
      rw [List.length_cons]; omega
    · rw [v10] at q; exact absurd q (by decide)
/-- a turn that wants a piece: a number, a name, or none -/
theorem S_want (hx : Rx M tp L key) (hso : so ≤ 4) (hsL : st ≤ L) (hst : so = 0 ∨ (st < L ∧ st < en ∧ en ≤ L)) (hpr : pr ≤ 8) (n1 : ¬ (so = 3 ∧ tp st = 33 ∧ nc stk < 8)) (n2 : ¬ (so = 3 ∧ tp st = 40 ∧ pr < 8))
    (hP : ∀ c0, isPart tp key st en so c0 → ∃ k S st1 en1 so1, stk = rpl k ++ S ∧ topn S ∧ Tok tp L en (wd so) st1 en1 so1 ∧ RG d P M tp st1 en1 so1 0 pr S (code ++ c0 :: rpl k) (ao + 1) ts)
    (hN : (∀ c0, ¬ isPart tp key st en so c0) → ∀ V, RF M st V → P (some (aI 0)) V) : RG d P M tp st en so 1 pr stk code ao ts := by
  intro V hV
  obtain ⟨hB, hT, hb⟩ := hV
  obtain ⟨b1, b2, b3, b4, b5, b6, b7, b8⟩ := id hB
  have hx' := hx
  obtain ⟨x6, xL, xtp, x12, xk⟩ := hx'
  have k3 := (tk_of hT hso).1
  have hstl : stk.length ≤ 96 := by omega
  refine okX7_takesE_28 (I28 := fun y1 y2 y3 W => ∃ st1 en1 so1 S code1 ao1, y1 = nI pr ∧ y2 = nI (nc S) ∧ y3 = 0 ∧ RSt M tp st1 en1 so1 pr S code1 ao1 ts W ∧ RG d P M tp st1 en1 so1 0 pr S code1 ao1 ts) _ _ _ V (fun y1 y2 y3 W z => ?_) ?_
  · obtain ⟨st1, en1, so1, S, code1, ao1, rfl, rfl, rfl, hW, hG⟩ := z
    exact hG W hW
  · have Z : wpX7_takesE_158 (Cl UM (d + 5)) (fun y1 y2 y3 W => ∃ st1 en1 so1 S code1 ao1, y1 = nI pr ∧ y2 = nI (nc S) ∧ y3 = 0 ∧ RSt M tp st1 en1 so1 pr S code1 ao1 ts W ∧ RG d P M tp st1 en1 so1 0 pr S code1 ao1 ts) (nI pr) (nI (nc stk)) 1 V P := by
      unfold wpX7_takesE_158
      refine r_takesPart hx hso hst hB hT hb (fun c0 hc0 => ?_) (fun no => ⟨_, rfl, f1 (hN no V ⟨b1, b2, hT.1⟩)⟩)
      obtain ⟨k, S, st1, en1, so1, e1, hS, hX, hG⟩ := hP c0 hc0
      have hle := hX.le
      have hso' : ¬ so = 0 := by rcases hc0 with q | q <;> omega
      have hlt := hst.resolve_left hso'
      have hl : (code ++ c0 :: rpl k).length + S.length = code.length + stk.length + 1 := by
        rw [e1, List.length_append, List.length_append, List.length_cons]; omega
      refine ⟨k, S, st1, en1, so1, e1, hS, hX, fun V1 i1 i2 => ⟨_, rfl, t1 ?_⟩⟩
      exact r_notsOpen (stk := S) i1.2.2.2.2.2.1 (by omega) i1.2.2.2.2.2.2.1 ⟨_, rfl, st1, en1, so1, S, _, _, rfl, rfl, rfl, ⟨i1, i2, by omega⟩, hG⟩
    unfold wpX7_takesE_28 wpX7_takesE_39 wpX7_takesE_97
    have Z97 : (¬ (V 24 0 9) = 3 → wpX7_takesE_158 (Cl UM (d + 5)) (fun y1 y2 y3 W => ∃ st1 en1 so1 S code1 ao1, y1 = nI pr ∧ y2 = nI (nc S) ∧ y3 = 0 ∧ RSt M tp st1 en1 so1 pr S code1 ao1 ts W ∧ RG d P M tp st1 en1 so1 0 pr S code1 ao1 ts) (nI pr) (nI (nc stk)) 1 V P) := fun _ => Z
    have v10 : so = 3 → V 24 0 10 = tp st := fun q => hT.2.2.2.1 (Or.inr q)
    have ge8 : ∀ j, ¬ j < 8 → j ≤ 200 → (8 : Int32) ≤ nI j := fun j q1 q2 => nI_le (a := 8) (by omega) (by omega)
    refine t2 (t1 ⟨fun q => ⟨fun _ => Z, fun q2 => absurd q2 q⟩, fun q => ⟨fun q2 => ⟨fun q3 => absurd q q3, fun _ => ⟨fun _ => Z, fun q4 => ⟨fun _ => Z, fun q5 => ?_⟩⟩⟩, fun q2 => ⟨fun _ => ⟨fun q3 => absurd q q3, fun _ => ⟨fun _ => Z, fun q4 => ?_⟩⟩, fun q3 => ?_⟩⟩⟩)
    · have h3 := k3.mp q
      exact absurd (ge8 pr (fun z => n2 ⟨h3, by rw [← v10 h3]; exact q4, z⟩) (by omega)) q5
    · rw [q2] at q4; exact absurd q4 (by decide)
    · have h3 := k3.mp q
      have := nc_le stk
      exact absurd (ge8 (nc stk) (fun z => n1 ⟨h3, by rw [← v10 h3]; exact q2, z⟩) (by omega)) q3
end RGS
