/-! ===== texts: recursive descent against the stack of signs ===== -/
def lowt (S : List Int32) (l : Nat) : Prop := S = [] ∨ ∃ c S', S = c :: S' ∧ (c = -11 ∨ rnk c < l + 1)
/-- how a reading fails: where, and that the reference fails there too -/
def CF (X : Mem) (st1 : Nat) (V1 : Mem) : Prop := (∀ r i, ¬ (r = 6 ∧ i = 0) → ¬ (r = 18 ∧ i = 0) → V1 r i = X r i) ∧ V1 6 0 5 = nI st1
def LvS (g : Nat) (X M : Mem) (tp : NF) (L key d l o n : Nat) : Prop :=
  ∀ (V : Mem) (st en so : Nat) (S code : List Int32) (ao : Nat) (ts : NF) (P : Option AV → Mem → Prop),
    CS X L key st en so code ao V → TW tp L st en so → nc S = n → lowt S l → (l ≤ 2 → ts o = 0) → code.length + S.length ≤ st →
    (∀ (V1 : Mem) (st1 en1 so1 : Nat) (ops code1 ys : List Int32) (ao1 : Nat) (ts1 : NF), CS X L key st1 en1 so1 (code1 ++ ops) ao1 V1 → TW tp L st1 en1 so1 → st < st1 → code1 ++ ops = code ++ ys → (∀ p, vd (nbk key) ys p = some (p + 1)) → (∀ c, c ∈ ops → (-10 < c ∧ c < 0) ∧ l + 1 ≤ rnk c) → code1.length + ops.length + S.length ≤ st1 → (3 ≤ l → (ts1 o = 0 ↔ ts o = 0)) → (∀ k, k < o → ts1 k = ts k) → (so1 = 3 → sgl (tp st1) < 5 → l ≤ sgl (tp st1) → sgl (tp st1) = 2 ∧ ¬ ts1 o = 0) →
      (∀ Q, RG g Q M tp st1 en1 so1 0 o (ops ++ S) code1 ao1 ts1 → RG g Q M tp st en so 1 o S code ao ts) → P (some (aI 1)) V1) →
    (∀ (V1 : Mem) (st1 : Nat), CF X st1 V1 → (∀ Q, (∀ W, RF M st1 W → Q (some (aI 0)) W) → RG g Q M tp st en so 1 o S code ao ts) → P (some (aI 0)) V1) →
    Cl UX d mX1_readLevel [aR 6 0, aI (nI l), aI (nI o), aI (nI n)] V P
def PcS (g : Nat) (X M : Mem) (tp : NF) (L key d o n : Nat) : Prop :=
  ∀ (V : Mem) (st en so k : Nat) (S code : List Int32) (ao : Nat) (ts : NF) (P : Option AV → Mem → Prop),
    CS X L key st en so code ao V → TW tp L st en so → nc (rpl k ++ S) = n → topn S → code.length + (k + S.length) ≤ st →
    (∀ (V1 : Mem) (st1 en1 so1 : Nat) (ys : List Int32) (ao1 : Nat) (ts1 : NF), CS X L key st1 en1 so1 (code ++ ys) ao1 V1 → TW tp L st1 en1 so1 → st < st1 → (∀ p, vd (nbk key) ys p = some (p + 1)) → (code ++ ys).length + (k + S.length) ≤ st1 → (∀ j, j ≤ o → ts1 j = ts j) →
      (∀ Q, RG g Q M tp st1 en1 so1 0 o S (code ++ ys ++ rpl k) ao1 ts1 → RG g Q M tp st en so 1 o (rpl k ++ S) code ao ts) → P (some (aI 1)) V1) →
    (∀ (V1 : Mem) (st1 : Nat), CF X st1 V1 → (∀ Q, (∀ W, RF M st1 W → Q (some (aI 0)) W) → RG g Q M tp st en so 1 o (rpl k ++ S) code ao ts) → P (some (aI 0)) V1) →
    Cl UX d mX1_readPiece [aR 6 0, aI (nI o), aI (nI n)] V P
section PARSE
variable {d D g : Nat} {V W X M X1 M1 : Mem} {P : Option AV → Mem → Prop} {m h T i j k r t u q m1 h1 s p e st en so so0 L st1 en1 so1 pr ao key lst nb l o n : Nat} {tp ts : NF} {a b c x y z kk ss c0 sg : Int32} {w : Bool} {stk code ops S out ys : List Int32}
theorem CS.cf (h : CS X L key st en so out ao V) : CF X st V := ⟨h.1, h.2.2.2.1⟩
theorem Tok.tw (h : Tok tp L e w st en so) : TW tp L st en so := ⟨e, w, h⟩
theorem rpl_len : (rpl k).length = k := List.length_replicate
theorem rpl_s : rpl (k + 1) = -10 :: rpl k := List.replicate_succ
theorem rpl_s' : rpl (k + 1) = rpl k ++ [-10] := List.replicate_succ'
theorem x_level5 (hP : PcS g X M tp L key (d + 4) o n) : LvS g X M tp L key (d + 5) 5 o n := by
  intro V st en so S code ao ts P hC hW hn hS ht hb hT hF
  refine clX1_readLevel (I42 := fun _ _ _ _ _ _ => False) _ _ _ V (fun _ _ _ _ _ _ q => q.elim) ?_
  unfold wpX1_readLevel_0
  refine ⟨fun c => absurd c (by decide), fun _ => ?_⟩
  refine hP V st en so 0 S code ao ts _ hC hW hn hS (by omega) (fun V1 st1 en1 so1 ys ao1 ts1 a1 a2 a3 a4 a5 a6 a7 => ⟨_, rfl, Or.inr rfl, hT V1 st1 en1 so1 [] (code ++ ys) ys ao1 ts1 ?_ a2 a3 ?_ a4 (fun c hc => absurd hc List.not_mem_nil) ?_ (fun _ => ?_) (fun k hk => a6 k (by omega)) (fun _ q1 q2 => by omega) (fun Q hQ => a7 Q ?_)⟩) (fun V1 st1 a1 a2 => ⟨_, rfl, Or.inl rfl, hF V1 st1 a1 a2⟩)
  · rw [List.append_nil]; exact a1
  · rw [List.append_nil]
  · rw [List.length_nil]; omega
  · rw [a6 o (Nat.le_refl _)]
  · have e : code ++ ys ++ rpl 0 = code ++ ys := List.append_nil _
    rw [e]
    exact hQ
/-- one level: its operands and its signs -/
theorem x_level (hx : Rx M tp L key) (htp : ∀ j, j < L → X 17 0 j = tp j) (hl : l < 5) (ho : o ≤ 8) (hI : LvS g X M tp L key (d + 4) (l + 1) o n) : LvS g X M tp L key (d + 5) l o n := by
  intro V st en so S code ao ts P hC hW hn hS ht hb hT hF
  have hL : L ≤ 96 := hx.2.1
  -- the loop over the signs
  have LP : ∀ (f i mx : Nat), i + f = mx → (l = 2 ∧ mx = 1 ∨ ¬ l = 2 ∧ mx = 96) → ∀ (V0 : Mem) (st1 en1 so1 : Nat) (ops code1 ys : List Int32) (ao1 : Nat) (ts1 : NF), i ≤ st1 → CS X L key st1 en1 so1 (code1 ++ ops) ao1 V0 → TW tp L st1 en1 so1 → st < st1 → code1 ++ ops = code ++ ys → (∀ p, vd (nbk key) ys p = some (p + 1)) → (∀ c, c ∈ ops → (-10 < c ∧ c < 0) ∧ l + 1 ≤ rnk c) → code1.length + ops.length + S.length ≤ st1 → (3 ≤ l → (ts1 o = 0 ↔ ts o = 0)) → (l = 2 → i = 0 → ts1 o = 0) → (l = 2 → i = 1 → ¬ ts1 o = 0) → (∀ k, k < o → ts1 k = ts k) → (so1 = 3 → sgl (tp st1) < 5 → l + 1 ≤ sgl (tp st1) → sgl (tp st1) = 2 ∧ ¬ ts1 o = 0) →
      (∀ Q, RG g Q M tp st1 en1 so1 0 o (ops ++ S) code1 ao1 ts1 → RG g Q M tp st en so 1 o S code ao ts) → Gq (Kp (d + 5) mX1_readLevel UX P) UX cX1_readLevel 7 RX1 42 [(0, aR 6 0), (1, aI (nI l)), (2, aI (nI o)), (3, aI (nI n)), (4, aI (nI mx)), (5, aI (nI i))] [] V0 := by
    intro f
    induction f with
    | zero =>
      intro i mx hi hmx V0 st1 en1 so1 ops code1 ys ao1 ts1 b0 b1 b2 b3 b4 b5 b6 b7 b8 b9 b9' b10 b11 b12
      have hle := b2.le
      refine okX1_readLevel_42 (I42 := fun _ _ _ _ _ _ => False) _ _ _ _ _ V0 (fun _ _ _ _ _ _ q => q.elim) ?_
      unfold wpX1_readLevel_42
      refine ⟨fun _ => hT V0 st1 en1 so1 ops code1 ys ao1 ts1 b1 b2 b3 b4 b5 b6 b7 b8 b10 (fun q1 q2 q3 => ?_) b12, fun c => absurd (nI_le (by omega) (by omega)) c⟩
      by_cases e : l + 1 ≤ sgl (tp st1)
      · exact b11 q1 q2 e
      · rcases hmx with ⟨l2, m1⟩ | ⟨l2, m1⟩
        · exact ⟨by omega, b9' l2 (by omega)⟩
        · have := b2.lt (by omega)
          omega
    | succ f ih =>
      intro i mx hi hmx V0 st1 en1 so1 ops code1 ys ao1 ts1 b0 b1 b2 b3 b4 b5 b6 b7 b8 b9 b9' b10 b11 b12
      have hle := b2.le
      refine okX1_readLevel_42 (I42 := fun y1 y2 y3 y4 y5 W => y1 = nI l ∧ y2 = nI o ∧ y3 = nI n ∧ y4 = nI mx ∧ y5 = nI (i + 1) ∧ ∃ (st1 en1 so1 : Nat) (ops code1 ys : List Int32) (ao1 : Nat) (ts1 : NF), i + 1 ≤ st1 ∧ CS X L key st1 en1 so1 (code1 ++ ops) ao1 W ∧ TW tp L st1 en1 so1 ∧ st < st1 ∧ code1 ++ ops = code ++ ys ∧ (∀ p, vd (nbk key) ys p = some (p + 1)) ∧ (∀ c, c ∈ ops → (-10 < c ∧ c < 0) ∧ l + 1 ≤ rnk c) ∧ code1.length + ops.length + S.length ≤ st1 ∧ (3 ≤ l → (ts1 o = 0 ↔ ts o = 0)) ∧ (l = 2 → i + 1 = 0 → ts1 o = 0) ∧ (l = 2 → i + 1 = 1 → ¬ ts1 o = 0) ∧ (∀ k, k < o → ts1 k = ts k) ∧ (so1 = 3 → sgl (tp st1) < 5 → l + 1 ≤ sgl (tp st1) → sgl (tp st1) = 2 ∧ ¬ ts1 o = 0) ∧
          (∀ Q, RG g Q M tp st1 en1 so1 0 o (ops ++ S) code1 ao1 ts1 → RG g Q M tp st en so 1 o S code ao ts)) _ _ _ _ _ V0 (fun y1 y2 y3 y4 y5 W z => ?_) ?_
      · obtain ⟨rfl, rfl, rfl, rfl, rfl, st2, en2, so2, ops2, code2, ys2, ao2, ts2, z0, z1, z2, z3, z4, z5, z6, z7, z8, z9, z9', z10, z11, z12⟩ := z
        exact ih (i + 1) mx (by omega) hmx W st2 en2 so2 ops2 code2 ys2 ao2 ts2 z0 z1 z2 z3 z4 z5 z6 z7 z8 z9 z9' z10 z11 z12
      · unfold wpX1_readLevel_42
        refine ⟨fun c => absurd c (nI_ge (by omega) (by omega)), fun _ => ?_⟩
        refine x_isSignOfC b1 htp hL b2 rfl hl (fun h3 hsg => ⟨_, rfl, t1 ?_⟩) (fun no => ⟨_, rfl, f1 (hT V0 st1 en1 so1 ops code1 ys ao1 ts1 b1 b2 b3 b4 b5 b6 b7 b8 b10 (fun q1 q2 q3 => ?_) b12)⟩)
        · have hlt := b2.lt (by omega)
          obtain ⟨g1, g2, g3⟩ := sg_ok (c := tp st1) (by omega)
          have e17 : V0 17 0 st1 = tp st1 := by rw [b1.1 17 0 (by omega) (by omega), htp st1 hlt.1]
          refine ⟨st1, b1.2.2.2.1, by omega, fun z4 ez4 => ?_⟩
          refine x_goC b1 htp hL b2 (fun st2 en2 so2 hX V2 hC2 => ⟨rfl, ?_⟩)
          have hle2 := hX.le
          have hr : rnk (sgh (tp st1)) = l + 1 := by rw [g2, hsg]
          -- the sign's turn of the reference
          have hstep : ∀ Q, RG g Q M tp st2 en2 so2 1 o (sgh (tp st1) :: S) (code1 ++ ops) ao1 (upd ts1 o (if rnk (sgh (tp st1)) = 3 ∨ (3 < rnk (sgh (tp st1)) ∧ ¬ ts1 o = 0) then 1 else 0)) → RG g Q M tp st en so 1 o S code ao ts := by
            intro Q hQ
            refine b12 Q (S_sign hx h3 rfl g1 (fun r3 => ?_) (fun c hc => ⟨(b6 c hc).1, by rw [hr]; exact (b6 c hc).2⟩) ?_ ho ⟨hlt.1, hlt.2, hle.2.1⟩ hX hQ)
            · have l2 : l = 2 := by omega
              rcases hmx with ⟨-, m1⟩ | ⟨q, -⟩
              · exact b9 l2 (by omega)
              · exact absurd l2 q
            · rw [hr]; exact hS
          rw [show nI l + 1 = nI (l + 1) from nI_1 l]
          refine hI V2 st2 en2 so2 (sgh (tp st1) :: S) (code1 ++ ops) ao1 (upd ts1 o (if rnk (sgh (tp st1)) = 3 ∨ (3 < rnk (sgh (tp st1)) ∧ ¬ ts1 o = 0) then 1 else 0)) _ hC2 hX.tw ?_ ?_ (fun l1 => ?_) ?_ (fun V3 st3 en3 so3 ops3 code3 ys3 ao3 ts3 d1 d2 d3 d4 d5 d6 d7 d8 d9 d10 d11 => ⟨_, rfl, t2 ?_⟩) (fun V3 st3 d1 d2 => ⟨_, rfl, f2 (hF V3 st3 d1 (fun Q hQ => hstep Q (d2 Q hQ)))⟩)
          · rw [nc, if_neg (op_n11 g1).2, Nat.zero_add]; exact hn
          · exact Or.inr ⟨_, _, rfl, Or.inr (by omega)⟩
          · rw [up_s, if_neg (by omega)]
          · rw [List.length_append, List.length_cons]; omega
          · rw [List.length_cons] at d7
            have hle3 := d2.le
            refine x_addC d1 (by rw [List.length_append]; omega) (c := sgh (tp st1)) (by rw [g3, ez4, e17]) (fun V4 hC4 => ⟨_, rfl, rfl, rfl, rfl, rfl, nI_1 i, st3, en3, so3, ops3 ++ [sgh (tp st1)], code3, ys ++ ys3 ++ [sgh (tp st1)], ao3, ts3, by omega, ?_, d2, by omega, ?_, fun p => ?_, fun c hc => ?_, ?_, fun l3 => ?_, fun _ q => absurd q (by omega), fun l2 _ => ?_, fun k hk => ?_, d10, fun Q hQ => hstep Q (d11 Q ?_)⟩)
            · rw [← List.append_assoc]; exact hC4
            · rw [← List.append_assoc, d4, b4, List.append_assoc, List.append_assoc, List.append_assoc]
            · rw [List.append_assoc, vd_app, b5]
              show vd (nbk key) (ys3 ++ [sgh (tp st1)]) (p + 1) = some (p + 1)
              rw [vd_app, d5]
              show vd (nbk key) [sgh (tp st1)] (p + 1 + 1) = some (p + 1)
              rw [vd, okc_op g1 (by omega)]
              rfl
            · rcases List.mem_append.mp hc with q | q
              · exact ⟨(d6 c q).1, by have := (d6 c q).2; omega⟩
              · rw [List.mem_singleton.mp q]; exact ⟨g1, by omega⟩
            · rw [List.length_append, List.length_cons, List.length_nil]; omega
            · rw [d8 (by omega), up_s, ← b8 l3]
              by_cases q : ts1 o = 0
              · rw [if_neg (fun z => by rcases z with z | z; omega; exact z.2 q)]
                exact ⟨fun _ => q, fun _ => rfl⟩
              · rw [if_pos (Or.inr ⟨by omega, q⟩)]
                exact ⟨fun z => absurd z (by decide), fun z => absurd z q⟩
            · rw [d8 (by omega), up_s, if_pos (Or.inl (by omega))]
              decide
            · rw [d9 k hk, up_n (by omega), b10 k hk]
            · rw [List.append_assoc, List.singleton_append] at hQ
              exact hQ
        · by_cases e : l + 1 ≤ sgl (tp st1)
          · exact b11 q1 q2 e
          · exact absurd ⟨q1, by omega⟩ no
  refine clX1_readLevel (I42 := fun y1 y2 y3 y4 y5 W => ∃ mx, y1 = nI l ∧ y2 = nI o ∧ y3 = nI n ∧ y4 = nI mx ∧ y5 = nI 0 ∧ (l = 2 ∧ mx = 1 ∨ ¬ l = 2 ∧ mx = 96) ∧ ∃ (st1 en1 so1 : Nat) (ops code1 ys : List Int32) (ao1 : Nat) (ts1 : NF), CS X L key st1 en1 so1 (code1 ++ ops) ao1 W ∧ TW tp L st1 en1 so1 ∧ st < st1 ∧ code1 ++ ops = code ++ ys ∧ (∀ p, vd (nbk key) ys p = some (p + 1)) ∧ (∀ c, c ∈ ops → (-10 < c ∧ c < 0) ∧ l + 1 ≤ rnk c) ∧ code1.length + ops.length + S.length ≤ st1 ∧ (3 ≤ l → (ts1 o = 0 ↔ ts o = 0)) ∧ (l = 2 → ts1 o = 0) ∧ (∀ k, k < o → ts1 k = ts k) ∧ (so1 = 3 → sgl (tp st1) < 5 → l + 1 ≤ sgl (tp st1) → sgl (tp st1) = 2 ∧ ¬ ts1 o = 0) ∧
      (∀ Q, RG g Q M tp st1 en1 so1 0 o (ops ++ S) code1 ao1 ts1 → RG g Q M tp st en so 1 o S code ao ts)) _ _ _ V (fun y1 y2 y3 y4 y5 W z => ?_) ?_
  · obtain ⟨mx, rfl, rfl, rfl, rfl, rfl, hmx, st2, en2, so2, ops2, code2, ys2, ao2, ts2, z1, z2, z3, z4, z5, z6, z7, z8, z9, z10, z11, z12⟩ := z
    exact LP mx 0 mx (by omega) hmx W st2 en2 so2 ops2 code2 ys2 ao2 ts2 (by omega) z1 z2 z3 z4 z5 z6 z7 z8 (fun a _ => z9 a) (fun _ q => absurd q (by omega)) z10 z11 z12
  · unfold wpX1_readLevel_0
    have n5 : nI l < 5 := nI_lt (b := 5) hl (by omega)
    have n2 : (nI l = 2) ↔ l = 2 := nI_eq (b := 2) (by omega) (by omega)
    refine ⟨fun _ => ?_, fun c => absurd n5 c⟩
    rw [show nI l + 1 = nI (l + 1) from nI_1 l]
    refine hI V st en so S code ao ts _ hC hW hn ?_ (fun q => ht (by omega)) hb (fun V1 st1 en1 so1 ops code1 ys ao1 ts1 d1 d2 d3 d4 d5 d6 d7 d8 d9 d10 d11 => ⟨_, rfl, t2 ?_⟩) (fun V1 st1 d1 d2 => ⟨_, rfl, f2 (hF V1 st1 d1 d2)⟩)
    · exact hS.imp id (fun ⟨c, S', q1, q2⟩ => ⟨c, S', q1, q2.imp id (fun q => by omega)⟩)
    · refine ⟨fun q => ⟨96, rfl, rfl, rfl, rfl, rfl, Or.inr ⟨fun z => q (n2.mpr z), rfl⟩, st1, en1, so1, ops, code1, ys, ao1, ts1, d1, d2, d3, d4, d5, fun c hc => ⟨(d6 c hc).1, by have := (d6 c hc).2; omega⟩, d7, fun q3 => d8 (by omega), fun z => absurd (n2.mpr z) q, d9, d10, d11⟩, fun q => ⟨1, rfl, rfl, rfl, rfl, rfl, Or.inl ⟨n2.mp q, rfl⟩, st1, en1, so1, ops, code1, ys, ao1, ts1, d1, d2, d3, d4, d5, fun c hc => ⟨(d6 c hc).1, by have := (d6 c hc).2; omega⟩, d7, fun q3 => d8 (by omega), fun z => (d8 (by omega)).mpr (ht (by omega)), d9, d10, d11⟩⟩
end PARSE
