theorem cat1 (ad : Nat → Nat → Nat) {a : AV} (h : isW a = false) : (cv ad a).category = 1 := by
  rcases a with x | ⟨q⟩ | x | x
  · rfl
  · rfl
  · cases h
  · rfl
theorem cat_sum (ad : Nat → Nat → Nat) (st : List AV) : ((st.map (cv ad)).map fun v => v.category).sum = (st.map fun v => if isW v then 2 else 1).sum := by
  induction st with
  | nil => rfl
  | cons a t ih =>
    simp only [List.map_cons, List.sum_cons, ih]
    congr 1
    rcases a with x | ⟨q⟩ | x | x <;> rfl
section ROWS
variable {Φ : KT} {U : Uv} {cc : ByteArray} {nL : Nat} {own : String} {pc : Nat} {al : List (Nat × AV)} {st : List AV} {V : Mem}
def HR (Φ : KT) (d : Nat) : Prop := ∀ (p : Program) (l : Launch) (e : Env) (R : Room) (s : State) (m : MethodId) (args : Array Value) (below : List Frame) (meth : Method) (c : Code) (ad : Nat → Nat → Nat) (D : va_G) (dA : Nat → Nat → ClassId) (A : Nat → Prop) (cells slots : Nat) (Qf : State → Prop),
    Φ p l e R s m args below meth c ad D dA A cells slots Qf → d + 1 ≤ R.frames ∧ 64 * d + 64 ≤ R.locals ∧ cells ≤ R.cells ∧ slots ≤ R.slots
theorem hr_Kp {d d' : Nat} {M : MI} {U : Uv} {P : Option AV → Mem → Prop} (h : d' ≤ d) : HR (Kp (d + 1) M U P) d' := by
  intro p l e R s m args below meth c ad D dA A cells slots Qf hf
  obtain ⟨rfl, -, rfl, rfl, -⟩ := hf
  refine ⟨?_, ?_, Nat.zero_le _, Nat.zero_le _⟩
  · show d' + 1 ≤ d + 1
    omega
  · show 64 * d' + 64 ≤ 64 * (d + 1)
    omega

theorem go_iconst {n : Int} {v : Int32} (hd : decode cc pc = .ok (.iconst n, 1)) (hv : Int32.ofInt n = v) (k : Gq Φ U cc nL own (pc + 1) al (aI v :: st) V) : Gq Φ U cc nL own pc al (st) V := by
  intro p l e R s m args below meth c ad D dA A cells slots Qf hf hC H locs ls hP hS hl
  exact lv_iconst hC.1 hC.2.1 hd hv (k p l e R s m args below meth c ad D dA A cells slots Qf hf hC H locs ls hP hS hl)
theorem go_bipush {n : Int} {v : Int32} (hd : decode cc pc = .ok (.bipush n, 2)) (hv : (Int8.ofInt n).toInt32 = v) (k : Gq Φ U cc nL own (pc + 2) al (aI v :: st) V) : Gq Φ U cc nL own pc al (st) V := by
  intro p l e R s m args below meth c ad D dA A cells slots Qf hf hC H locs ls hP hS hl
  exact lv_bipush hC.1 hC.2.1 hd hv (k p l e R s m args below meth c ad D dA A cells slots Qf hf hC H locs ls hP hS hl)
theorem go_sipush {n : Int} {v : Int32} (hd : decode cc pc = .ok (.sipush n, 3)) (hv : (Int16.ofInt n).toInt32 = v) (k : Gq Φ U cc nL own (pc + 3) al (aI v :: st) V) : Gq Φ U cc nL own pc al (st) V := by
  intro p l e R s m args below meth c ad D dA A cells slots Qf hf hC H locs ls hP hS hl
  exact lv_sipush hC.1 hC.2.1 hd hv (k p l e R s m args below meth c ad D dA A cells slots Qf hf hC H locs ls hP hS hl)
theorem go_lconst {n : Fin 2} {v : Int64} (hd : decode cc pc = .ok (.lconst n, 1)) (hv : Int64.ofNat (n : Nat) = v) (k : Gq Φ U cc nL own (pc + 1) al (aL v :: st) V) : Gq Φ U cc nL own pc al (st) V := by
  intro p l e R s m args below meth c ad D dA A cells slots Qf hf hC H locs ls hP hS hl
  exact lv_lconst hC.1 hC.2.1 hd hv (k p l e R s m args below meth c ad D dA A cells slots Qf hf hC H locs ls hP hS hl)
theorem go_ldc {ix : Nat} {v : Int32} (hd : decode cc pc = .ok (.ldc ix, 2)) (hw : Cond.constant own ix v ∈ WSU) (k : Gq Φ U cc nL own (pc + 2) al (aI v :: st) V) : Gq Φ U cc nL own pc al (st) V := by
  intro p l e R s m args below meth c ad D dA A cells slots Qf hf hC H locs ls hP hS hl
  exact lv_ldc hC.1 hC.2.1 hC.2.2.2.1 (hC.2.2.2.2.1 _ hw) hd (k p l e R s m args below meth c ad D dA A cells slots Qf hf hC H locs ls hP hS hl)
theorem go_ldcw {ix : Nat} {v : Int32} (hd : decode cc pc = .ok (.ldc_w ix, 3)) (hw : Cond.constant own ix v ∈ WSU) (k : Gq Φ U cc nL own (pc + 3) al (aI v :: st) V) : Gq Φ U cc nL own pc al (st) V := by
  intro p l e R s m args below meth c ad D dA A cells slots Qf hf hC H locs ls hP hS hl
  exact lv_ldcw hC.1 hC.2.1 hC.2.2.2.1 (hC.2.2.2.2.1 _ hw) hd (k p l e R s m args below meth c ad D dA A cells slots Qf hf hC H locs ls hP hS hl)
theorem go_iload_n {n : Fin 4} {i q : Nat} {x : Int32} (hd : decode cc pc = .ok (.iload_n n, 1)) (hi : (n : Nat) = i) (hv : al[q]? = some (i, aI x)) (k : Gq Φ U cc nL own (pc + 1) al (aI x :: st) V) : Gq Φ U cc nL own pc al (st) V := by
  intro p l e R s m args below meth c ad D dA A cells slots Qf hf hC H locs ls hP hS hl
  exact lv_iload_n hC.1 hC.2.1 hd hi (lv_al hl hv) (k p l e R s m args below meth c ad D dA A cells slots Qf hf hC H locs ls hP hS hl)
theorem go_iload {i q : Nat} {x : Int32} (hd : decode cc pc = .ok (.iload i, 2)) (hv : al[q]? = some (i, aI x)) (k : Gq Φ U cc nL own (pc + 2) al (aI x :: st) V) : Gq Φ U cc nL own pc al (st) V := by
  intro p l e R s m args below meth c ad D dA A cells slots Qf hf hC H locs ls hP hS hl
  exact lv_iload hC.1 hC.2.1 hd (lv_al hl hv) (k p l e R s m args below meth c ad D dA A cells slots Qf hf hC H locs ls hP hS hl)
theorem go_lload_n {n : Fin 4} {i q : Nat} {x : Int64} (hd : decode cc pc = .ok (.lload_n n, 1)) (hi : (n : Nat) = i) (hv : al[q]? = some (i, aL x)) (k : Gq Φ U cc nL own (pc + 1) al (aL x :: st) V) : Gq Φ U cc nL own pc al (st) V := by
  intro p l e R s m args below meth c ad D dA A cells slots Qf hf hC H locs ls hP hS hl
  exact lv_lload_n hC.1 hC.2.1 hd hi (lv_al hl hv) (k p l e R s m args below meth c ad D dA A cells slots Qf hf hC H locs ls hP hS hl)
theorem go_lload {i q : Nat} {x : Int64} (hd : decode cc pc = .ok (.lload i, 2)) (hv : al[q]? = some (i, aL x)) (k : Gq Φ U cc nL own (pc + 2) al (aL x :: st) V) : Gq Φ U cc nL own pc al (st) V := by
  intro p l e R s m args below meth c ad D dA A cells slots Qf hf hC H locs ls hP hS hl
  exact lv_lload hC.1 hC.2.1 hd (lv_al hl hv) (k p l e R s m args below meth c ad D dA A cells slots Qf hf hC H locs ls hP hS hl)
theorem go_aload_n {n : Fin 4} {i q r j : Nat} (hd : decode cc pc = .ok (.aload_n n, 1)) (hi : (n : Nat) = i) (hv : al[q]? = some (i, aR r j)) (k : Gq Φ U cc nL own (pc + 1) al (aR r j :: st) V) : Gq Φ U cc nL own pc al (st) V := by
  intro p l e R s m args below meth c ad D dA A cells slots Qf hf hC H locs ls hP hS hl
  exact lv_aload_n hC.1 hC.2.1 hd hi (lv_al hl hv) (k p l e R s m args below meth c ad D dA A cells slots Qf hf hC H locs ls hP hS hl)
theorem go_aload {i q r j : Nat} (hd : decode cc pc = .ok (.aload i, 2)) (hv : al[q]? = some (i, aR r j)) (k : Gq Φ U cc nL own (pc + 2) al (aR r j :: st) V) : Gq Φ U cc nL own pc al (st) V := by
  intro p l e R s m args below meth c ad D dA A cells slots Qf hf hC H locs ls hP hS hl
  exact lv_aload hC.1 hC.2.1 hd (lv_al hl hv) (k p l e R s m args below meth c ad D dA A cells slots Qf hf hC H locs ls hP hS hl)
theorem go_istore_n {n : Fin 4} {i : Nat} {x : Int32} {al1 : List (Nat × AV)} (hd : decode cc pc = .ok (.istore_n n, 1)) (hi : (n : Nat) = i) (hn : i < nL) (ha : st1 i (aI x) al = al1) (k : Gq Φ U cc nL own (pc + 1) al1 st V) : Gq Φ U cc nL own pc al (aI x :: st) V := by
  intro p l e R s m args below meth c ad D dA A cells slots Qf hf hC H locs ls hP hS hl
  subst ha
  exact lv_istore_n hC.1 hC.2.1 hd hi hl hn (st1_map ad i (aI x) al) (fun ls1 hl1 => (k p l e R s m args below meth c ad D dA A cells slots Qf hf hC H locs ls1 hP hS hl1))
theorem go_istore {i : Nat} {x : Int32} {al1 : List (Nat × AV)} (hd : decode cc pc = .ok (.istore i, 2))  (hn : i < nL) (ha : st1 i (aI x) al = al1) (k : Gq Φ U cc nL own (pc + 2) al1 st V) : Gq Φ U cc nL own pc al (aI x :: st) V := by
  intro p l e R s m args below meth c ad D dA A cells slots Qf hf hC H locs ls hP hS hl
  subst ha
  exact lv_istore hC.1 hC.2.1 hd hl hn (st1_map ad i (aI x) al) (fun ls1 hl1 => (k p l e R s m args below meth c ad D dA A cells slots Qf hf hC H locs ls1 hP hS hl1))
theorem go_lstore_n {n : Fin 4} {i : Nat} {x : Int64} {al1 : List (Nat × AV)} (hd : decode cc pc = .ok (.lstore_n n, 1)) (hi : (n : Nat) = i) (hn : i + 1 < nL) (ha : st2 i (aL x) al = al1) (k : Gq Φ U cc nL own (pc + 1) al1 st V) : Gq Φ U cc nL own pc al (aL x :: st) V := by
  intro p l e R s m args below meth c ad D dA A cells slots Qf hf hC H locs ls hP hS hl
  subst ha
  exact lv_lstore_n hC.1 hC.2.1 hd hi hl hn (st2_map ad i (aL x) al) (fun ls1 hl1 => (k p l e R s m args below meth c ad D dA A cells slots Qf hf hC H locs ls1 hP hS hl1))
theorem go_lstore {i : Nat} {x : Int64} {al1 : List (Nat × AV)} (hd : decode cc pc = .ok (.lstore i, 2))  (hn : i + 1 < nL) (ha : st2 i (aL x) al = al1) (k : Gq Φ U cc nL own (pc + 2) al1 st V) : Gq Φ U cc nL own pc al (aL x :: st) V := by
  intro p l e R s m args below meth c ad D dA A cells slots Qf hf hC H locs ls hP hS hl
  subst ha
  exact lv_lstore hC.1 hC.2.1 hd hl hn (st2_map ad i (aL x) al) (fun ls1 hl1 => (k p l e R s m args below meth c ad D dA A cells slots Qf hf hC H locs ls1 hP hS hl1))
theorem go_astore_n {n : Fin 4} {i r j : Nat} {al1 : List (Nat × AV)} (hd : decode cc pc = .ok (.astore_n n, 1)) (hi : (n : Nat) = i) (hn : i < nL) (ha : st1 i (aR r j) al = al1) (k : Gq Φ U cc nL own (pc + 1) al1 st V) : Gq Φ U cc nL own pc al (aR r j :: st) V := by
  intro p l e R s m args below meth c ad D dA A cells slots Qf hf hC H locs ls hP hS hl
  subst ha
  exact lv_astore_n hC.1 hC.2.1 hd hi hl hn (st1_map ad i (aR r j) al) (fun ls1 hl1 => (k p l e R s m args below meth c ad D dA A cells slots Qf hf hC H locs ls1 hP hS hl1))
theorem go_astore {i r j : Nat} {al1 : List (Nat × AV)} (hd : decode cc pc = .ok (.astore i, 2))  (hn : i < nL) (ha : st1 i (aR r j) al = al1) (k : Gq Φ U cc nL own (pc + 2) al1 st V) : Gq Φ U cc nL own pc al (aR r j :: st) V := by
  intro p l e R s m args below meth c ad D dA A cells slots Qf hf hC H locs ls hP hS hl
  subst ha
  exact lv_astore hC.1 hC.2.1 hd hl hn (st1_map ad i (aR r j) al) (fun ls1 hl1 => (k p l e R s m args below meth c ad D dA A cells slots Qf hf hC H locs ls1 hP hS hl1))
theorem go_iinc {i q : Nat} {n : Int} {x y : Int32} {al1 : List (Nat × AV)} (hd : decode cc pc = .ok (.iinc i n, 3)) (hv : al[q]? = some (i, aI x)) (hy : Int32.ofInt n = y) (hn : i < nL) (ha : st1 i (aI (x + y)) al = al1) (k : Gq Φ U cc nL own (pc + 3) al1 st V) : Gq Φ U cc nL own pc al st V := by
  intro p l e R s m args below meth c ad D dA A cells slots Qf hf hC H locs ls hP hS hl
  subst ha
  subst hy
  exact lv_iinc (k := q) (x := x) hC.1 hC.2.1 hd hl (by rw [cvl, List.getElem?_map, hv]; rfl) rfl hn (st1_map ad i (aI (x + Int32.ofInt n)) al) (fun ls1 hl1 => (k p l e R s m args below meth c ad D dA A cells slots Qf hf hC H locs ls1 hP hS hl1))
theorem go_iadd {x y : Int32} (hd : decode cc pc = .ok (.iadd, 1))  (k : Gq Φ U cc nL own (pc + 1) al (aI (x + y) :: st) V) : Gq Φ U cc nL own pc al (aI y :: aI x :: st) V := by
  intro p l e R s m args below meth c ad D dA A cells slots Qf hf hC H locs ls hP hS hl
  exact lv_iadd hC.1 hC.2.1 hd (k p l e R s m args below meth c ad D dA A cells slots Qf hf hC H locs ls hP hS hl)
theorem go_isub {x y : Int32} (hd : decode cc pc = .ok (.isub, 1))  (k : Gq Φ U cc nL own (pc + 1) al (aI (x - y) :: st) V) : Gq Φ U cc nL own pc al (aI y :: aI x :: st) V := by
  intro p l e R s m args below meth c ad D dA A cells slots Qf hf hC H locs ls hP hS hl
  exact lv_isub hC.1 hC.2.1 hd (k p l e R s m args below meth c ad D dA A cells slots Qf hf hC H locs ls hP hS hl)
theorem go_imul {x y : Int32} (hd : decode cc pc = .ok (.imul, 1))  (k : Gq Φ U cc nL own (pc + 1) al (aI (x * y) :: st) V) : Gq Φ U cc nL own pc al (aI y :: aI x :: st) V := by
  intro p l e R s m args below meth c ad D dA A cells slots Qf hf hC H locs ls hP hS hl
  exact lv_imul hC.1 hC.2.1 hd (k p l e R s m args below meth c ad D dA A cells slots Qf hf hC H locs ls hP hS hl)
theorem go_iand {x y : Int32} (hd : decode cc pc = .ok (.iand, 1))  (k : Gq Φ U cc nL own (pc + 1) al (aI (x &&& y) :: st) V) : Gq Φ U cc nL own pc al (aI y :: aI x :: st) V := by
  intro p l e R s m args below meth c ad D dA A cells slots Qf hf hC H locs ls hP hS hl
  exact lv_iand hC.1 hC.2.1 hd (k p l e R s m args below meth c ad D dA A cells slots Qf hf hC H locs ls hP hS hl)
theorem go_ishr {x y : Int32} (hd : decode cc pc = .ok (.ishr, 1))  (k : Gq Φ U cc nL own (pc + 1) al (aI (x >>> (y &&& 31)) :: st) V) : Gq Φ U cc nL own pc al (aI y :: aI x :: st) V := by
  intro p l e R s m args below meth c ad D dA A cells slots Qf hf hC H locs ls hP hS hl
  exact lv_ishr hC.1 hC.2.1 hd (k p l e R s m args below meth c ad D dA A cells slots Qf hf hC H locs ls hP hS hl)
theorem go_iushr {x y : Int32} (hd : decode cc pc = .ok (.iushr, 1))  (k : Gq Φ U cc nL own (pc + 1) al (aI ((x.toUInt32 >>> (y.toUInt32 &&& Int32.toUInt32 31)).toInt32) :: st) V) : Gq Φ U cc nL own pc al (aI y :: aI x :: st) V := by
  intro p l e R s m args below meth c ad D dA A cells slots Qf hf hC H locs ls hP hS hl
  exact lv_iushr hC.1 hC.2.1 hd rfl (k p l e R s m args below meth c ad D dA A cells slots Qf hf hC H locs ls hP hS hl)
theorem go_idiv {x y : Int32} (hd : decode cc pc = .ok (.idiv, 1)) (hne : ¬ y = 0) (k : Gq Φ U cc nL own (pc + 1) al (aI (x / y) :: st) V) : Gq Φ U cc nL own pc al (aI y :: aI x :: st) V := by
  intro p l e R s m args below meth c ad D dA A cells slots Qf hf hC H locs ls hP hS hl
  exact lv_idiv hC.1 hC.2.1 hd hne (k p l e R s m args below meth c ad D dA A cells slots Qf hf hC H locs ls hP hS hl)
theorem go_irem {x y : Int32} (hd : decode cc pc = .ok (.irem, 1)) (hne : ¬ y = 0) (k : Gq Φ U cc nL own (pc + 1) al (aI (x - x / y * y) :: st) V) : Gq Φ U cc nL own pc al (aI y :: aI x :: st) V := by
  intro p l e R s m args below meth c ad D dA A cells slots Qf hf hC H locs ls hP hS hl
  exact lv_irem hC.1 hC.2.1 hd hne (k p l e R s m args below meth c ad D dA A cells slots Qf hf hC H locs ls hP hS hl)
theorem go_ineg {x : Int32} (hd : decode cc pc = .ok (.ineg, 1))  (k : Gq Φ U cc nL own (pc + 1) al (aI (-x) :: st) V) : Gq Φ U cc nL own pc al (aI x :: st) V := by
  intro p l e R s m args below meth c ad D dA A cells slots Qf hf hC H locs ls hP hS hl
  exact lv_ineg hC.1 hC.2.1 hd (k p l e R s m args below meth c ad D dA A cells slots Qf hf hC H locs ls hP hS hl)
theorem go_ladd {x y : Int64} (hd : decode cc pc = .ok (.ladd, 1))  (k : Gq Φ U cc nL own (pc + 1) al (aL (x + y) :: st) V) : Gq Φ U cc nL own pc al (aL y :: aL x :: st) V := by
  intro p l e R s m args below meth c ad D dA A cells slots Qf hf hC H locs ls hP hS hl
  exact lv_ladd hC.1 hC.2.1 hd (k p l e R s m args below meth c ad D dA A cells slots Qf hf hC H locs ls hP hS hl)
theorem go_lsub {x y : Int64} (hd : decode cc pc = .ok (.lsub, 1))  (k : Gq Φ U cc nL own (pc + 1) al (aL (x - y) :: st) V) : Gq Φ U cc nL own pc al (aL y :: aL x :: st) V := by
  intro p l e R s m args below meth c ad D dA A cells slots Qf hf hC H locs ls hP hS hl
  exact lv_lsub hC.1 hC.2.1 hd (k p l e R s m args below meth c ad D dA A cells slots Qf hf hC H locs ls hP hS hl)
theorem go_lneg {x : Int64} (hd : decode cc pc = .ok (.lneg, 1))  (k : Gq Φ U cc nL own (pc + 1) al (aL (-x) :: st) V) : Gq Φ U cc nL own pc al (aL x :: st) V := by
  intro p l e R s m args below meth c ad D dA A cells slots Qf hf hC H locs ls hP hS hl
  exact lv_lneg hC.1 hC.2.1 hd (k p l e R s m args below meth c ad D dA A cells slots Qf hf hC H locs ls hP hS hl)
theorem go_lcmp {x y : Int64} (hd : decode cc pc = .ok (.lcmp, 1))  (k : Gq Φ U cc nL own (pc + 1) al (aI (lg_cmp x y) :: st) V) : Gq Φ U cc nL own pc al (aL y :: aL x :: st) V := by
  intro p l e R s m args below meth c ad D dA A cells slots Qf hf hC H locs ls hP hS hl
  exact W.lcmp hC.1 hC.2.1 hd (k p l e R s m args below meth c ad D dA A cells slots Qf hf hC H locs ls hP hS hl)
theorem go_i2l {x : Int32} (hd : decode cc pc = .ok (.i2l, 1))  (k : Gq Φ U cc nL own (pc + 1) al (aL x.toInt64 :: st) V) : Gq Φ U cc nL own pc al (aI x :: st) V := by
  intro p l e R s m args below meth c ad D dA A cells slots Qf hf hC H locs ls hP hS hl
  exact lv_i2l hC.1 hC.2.1 hd rfl (k p l e R s m args below meth c ad D dA A cells slots Qf hf hC H locs ls hP hS hl)
theorem go_l2i {x : Int64} (hd : decode cc pc = .ok (.l2i, 1))  (k : Gq Φ U cc nL own (pc + 1) al (aI x.toInt32 :: st) V) : Gq Φ U cc nL own pc al (aL x :: st) V := by
  intro p l e R s m args below meth c ad D dA A cells slots Qf hf hC H locs ls hP hS hl
  exact lv_l2i hC.1 hC.2.1 hd rfl (k p l e R s m args below meth c ad D dA A cells slots Qf hf hC H locs ls hP hS hl)
theorem go_i2s {x : Int32} (hd : decode cc pc = .ok (.i2s, 1))  (k : Gq Φ U cc nL own (pc + 1) al (aI x.toInt16.toInt32 :: st) V) : Gq Φ U cc nL own pc al (aI x :: st) V := by
  intro p l e R s m args below meth c ad D dA A cells slots Qf hf hC H locs ls hP hS hl
  exact lv_i2s hC.1 hC.2.1 hd rfl (k p l e R s m args below meth c ad D dA A cells slots Qf hf hC H locs ls hP hS hl)
theorem go_i2b {x : Int32} (hd : decode cc pc = .ok (.i2b, 1))  (k : Gq Φ U cc nL own (pc + 1) al (aI x.toInt8.toInt32 :: st) V) : Gq Φ U cc nL own pc al (aI x :: st) V := by
  intro p l e R s m args below meth c ad D dA A cells slots Qf hf hC H locs ls hP hS hl
  exact lv_i2b hC.1 hC.2.1 hd rfl (k p l e R s m args below meth c ad D dA A cells slots Qf hf hC H locs ls hP hS hl)
theorem go_i2c {x : Int32} (hd : decode cc pc = .ok (.i2c, 1))  (k : Gq Φ U cc nL own (pc + 1) al (aI (x.toUInt32 % 65536).toInt32 :: st) V) : Gq Φ U cc nL own pc al (aI x :: st) V := by
  intro p l e R s m args below meth c ad D dA A cells slots Qf hf hC H locs ls hP hS hl
  exact lv_i2c hC.1 hC.2.1 hd rfl (k p l e R s m args below meth c ad D dA A cells slots Qf hf hC H locs ls hP hS hl)
theorem go_dup {a : AV} (hd : decode cc pc = .ok (.dup, 1)) (ha : isW a = false) (k : Gq Φ U cc nL own (pc + 1) al (a :: a :: st) V) : Gq Φ U cc nL own pc al (a :: st) V := by
  intro p l e R s m args below meth c ad D dA A cells slots Qf hf hC H locs ls hP hS hl
  exact lv_dup hC.1 hC.2.1 hd (cat1 ad ha) (k p l e R s m args below meth c ad D dA A cells slots Qf hf hC H locs ls hP hS hl)
theorem go_pop {a : AV} (hd : decode cc pc = .ok (.pop, 1)) (ha : isW a = false) (k : Gq Φ U cc nL own (pc + 1) al (st) V) : Gq Φ U cc nL own pc al (a :: st) V := by
  intro p l e R s m args below meth c ad D dA A cells slots Qf hf hC H locs ls hP hS hl
  exact lv_pop hC.1 hC.2.1 hd (cat1 ad ha) (k p l e R s m args below meth c ad D dA A cells slots Qf hf hC H locs ls hP hS hl)
theorem go_dup_x1 {a b : AV} (hd : decode cc pc = .ok (.dup_x1, 1)) (ha : isW a = false) (hb : isW b = false) (k : Gq Φ U cc nL own (pc + 1) al (a :: b :: a :: st) V) : Gq Φ U cc nL own pc al (a :: b :: st) V := by
  intro p l e R s m args below meth c ad D dA A cells slots Qf hf hC H locs ls hP hS hl
  exact lv_dup_x1 hC.1 hC.2.1 hd (cat1 ad ha) (cat1 ad hb) (k p l e R s m args below meth c ad D dA A cells slots Qf hf hC H locs ls hP hS hl)
theorem go_dup2 {a b : AV} (hd : decode cc pc = .ok (.dup2, 1)) (ha : isW a = false) (hb : isW b = false) (k : Gq Φ U cc nL own (pc + 1) al (a :: b :: a :: b :: st) V) : Gq Φ U cc nL own pc al (a :: b :: st) V := by
  intro p l e R s m args below meth c ad D dA A cells slots Qf hf hC H locs ls hP hS hl
  exact lv_dup2_11 hC.1 hC.2.1 hd (cat1 ad ha) (cat1 ad hb) (k p l e R s m args below meth c ad D dA A cells slots Qf hf hC H locs ls hP hS hl)
theorem go_if_eq {x : Int32} {off : Int} {tgt : Nat} (hd : decode cc pc = .ok (.ifCond .eq off, 3)) (ht : (pc : Int) + off = (tgt : Int)) (kt : x = 0 → Gq Φ U cc nL own tgt al st V) (kf : ¬ x = 0 → Gq Φ U cc nL own (pc + 3) al st V) : Gq Φ U cc nL own pc al (aI x :: st) V := by
  intro p l e R s m args below meth c ad D dA A cells slots Qf hf hC H locs ls hP hS hl
  exact lv_if_eq hC.1 hC.2.1 hd ht (fun h => kt h p l e R s m args below meth c ad D dA A cells slots Qf hf hC H locs ls hP hS hl) (fun h => kf h p l e R s m args below meth c ad D dA A cells slots Qf hf hC H locs ls hP hS hl)
theorem go_icmp_eq {x y : Int32} {off : Int} {tgt : Nat} (hd : decode cc pc = .ok (.if_icmp .eq off, 3)) (ht : (pc : Int) + off = (tgt : Int)) (kt : x = y → Gq Φ U cc nL own tgt al st V) (kf : ¬ x = y → Gq Φ U cc nL own (pc + 3) al st V) : Gq Φ U cc nL own pc al (aI y :: aI x :: st) V := by
  intro p l e R s m args below meth c ad D dA A cells slots Qf hf hC H locs ls hP hS hl
  exact lv_icmp_eq hC.1 hC.2.1 hd ht (fun h => kt h p l e R s m args below meth c ad D dA A cells slots Qf hf hC H locs ls hP hS hl) (fun h => kf h p l e R s m args below meth c ad D dA A cells slots Qf hf hC H locs ls hP hS hl)
theorem go_if_ne {x : Int32} {off : Int} {tgt : Nat} (hd : decode cc pc = .ok (.ifCond .ne off, 3)) (ht : (pc : Int) + off = (tgt : Int)) (kt : ¬ x = 0 → Gq Φ U cc nL own tgt al st V) (kf : x = 0 → Gq Φ U cc nL own (pc + 3) al st V) : Gq Φ U cc nL own pc al (aI x :: st) V := by
  intro p l e R s m args below meth c ad D dA A cells slots Qf hf hC H locs ls hP hS hl
  exact lv_if_ne hC.1 hC.2.1 hd ht (fun h => kt h p l e R s m args below meth c ad D dA A cells slots Qf hf hC H locs ls hP hS hl) (fun h => kf h p l e R s m args below meth c ad D dA A cells slots Qf hf hC H locs ls hP hS hl)
theorem go_icmp_ne {x y : Int32} {off : Int} {tgt : Nat} (hd : decode cc pc = .ok (.if_icmp .ne off, 3)) (ht : (pc : Int) + off = (tgt : Int)) (kt : ¬ x = y → Gq Φ U cc nL own tgt al st V) (kf : x = y → Gq Φ U cc nL own (pc + 3) al st V) : Gq Φ U cc nL own pc al (aI y :: aI x :: st) V := by
  intro p l e R s m args below meth c ad D dA A cells slots Qf hf hC H locs ls hP hS hl
  exact lv_icmp_ne hC.1 hC.2.1 hd ht (fun h => kt h p l e R s m args below meth c ad D dA A cells slots Qf hf hC H locs ls hP hS hl) (fun h => kf h p l e R s m args below meth c ad D dA A cells slots Qf hf hC H locs ls hP hS hl)
theorem go_if_lt {x : Int32} {off : Int} {tgt : Nat} (hd : decode cc pc = .ok (.ifCond .lt off, 3)) (ht : (pc : Int) + off = (tgt : Int)) (kt : x < 0 → Gq Φ U cc nL own tgt al st V) (kf : ¬ x < 0 → Gq Φ U cc nL own (pc + 3) al st V) : Gq Φ U cc nL own pc al (aI x :: st) V := by
  intro p l e R s m args below meth c ad D dA A cells slots Qf hf hC H locs ls hP hS hl
  exact lv_if_lt hC.1 hC.2.1 hd ht (fun h => kt h p l e R s m args below meth c ad D dA A cells slots Qf hf hC H locs ls hP hS hl) (fun h => kf h p l e R s m args below meth c ad D dA A cells slots Qf hf hC H locs ls hP hS hl)
theorem go_icmp_lt {x y : Int32} {off : Int} {tgt : Nat} (hd : decode cc pc = .ok (.if_icmp .lt off, 3)) (ht : (pc : Int) + off = (tgt : Int)) (kt : x < y → Gq Φ U cc nL own tgt al st V) (kf : ¬ x < y → Gq Φ U cc nL own (pc + 3) al st V) : Gq Φ U cc nL own pc al (aI y :: aI x :: st) V := by
  intro p l e R s m args below meth c ad D dA A cells slots Qf hf hC H locs ls hP hS hl
  exact lv_icmp_lt hC.1 hC.2.1 hd ht (fun h => kt h p l e R s m args below meth c ad D dA A cells slots Qf hf hC H locs ls hP hS hl) (fun h => kf h p l e R s m args below meth c ad D dA A cells slots Qf hf hC H locs ls hP hS hl)
theorem go_if_ge {x : Int32} {off : Int} {tgt : Nat} (hd : decode cc pc = .ok (.ifCond .ge off, 3)) (ht : (pc : Int) + off = (tgt : Int)) (kt : 0 ≤ x → Gq Φ U cc nL own tgt al st V) (kf : ¬ 0 ≤ x → Gq Φ U cc nL own (pc + 3) al st V) : Gq Φ U cc nL own pc al (aI x :: st) V := by
  intro p l e R s m args below meth c ad D dA A cells slots Qf hf hC H locs ls hP hS hl
  exact lv_if_ge hC.1 hC.2.1 hd ht (fun h => kt h p l e R s m args below meth c ad D dA A cells slots Qf hf hC H locs ls hP hS hl) (fun h => kf h p l e R s m args below meth c ad D dA A cells slots Qf hf hC H locs ls hP hS hl)
theorem go_icmp_ge {x y : Int32} {off : Int} {tgt : Nat} (hd : decode cc pc = .ok (.if_icmp .ge off, 3)) (ht : (pc : Int) + off = (tgt : Int)) (kt : y ≤ x → Gq Φ U cc nL own tgt al st V) (kf : ¬ y ≤ x → Gq Φ U cc nL own (pc + 3) al st V) : Gq Φ U cc nL own pc al (aI y :: aI x :: st) V := by
  intro p l e R s m args below meth c ad D dA A cells slots Qf hf hC H locs ls hP hS hl
  exact lv_icmp_ge hC.1 hC.2.1 hd ht (fun h => kt h p l e R s m args below meth c ad D dA A cells slots Qf hf hC H locs ls hP hS hl) (fun h => kf h p l e R s m args below meth c ad D dA A cells slots Qf hf hC H locs ls hP hS hl)
theorem go_if_gt {x : Int32} {off : Int} {tgt : Nat} (hd : decode cc pc = .ok (.ifCond .gt off, 3)) (ht : (pc : Int) + off = (tgt : Int)) (kt : 0 < x → Gq Φ U cc nL own tgt al st V) (kf : ¬ 0 < x → Gq Φ U cc nL own (pc + 3) al st V) : Gq Φ U cc nL own pc al (aI x :: st) V := by
  intro p l e R s m args below meth c ad D dA A cells slots Qf hf hC H locs ls hP hS hl
  exact lv_if_gt hC.1 hC.2.1 hd ht (fun h => kt h p l e R s m args below meth c ad D dA A cells slots Qf hf hC H locs ls hP hS hl) (fun h => kf h p l e R s m args below meth c ad D dA A cells slots Qf hf hC H locs ls hP hS hl)
theorem go_icmp_gt {x y : Int32} {off : Int} {tgt : Nat} (hd : decode cc pc = .ok (.if_icmp .gt off, 3)) (ht : (pc : Int) + off = (tgt : Int)) (kt : y < x → Gq Φ U cc nL own tgt al st V) (kf : ¬ y < x → Gq Φ U cc nL own (pc + 3) al st V) : Gq Φ U cc nL own pc al (aI y :: aI x :: st) V := by
  intro p l e R s m args below meth c ad D dA A cells slots Qf hf hC H locs ls hP hS hl
  exact lv_icmp_gt hC.1 hC.2.1 hd ht (fun h => kt h p l e R s m args below meth c ad D dA A cells slots Qf hf hC H locs ls hP hS hl) (fun h => kf h p l e R s m args below meth c ad D dA A cells slots Qf hf hC H locs ls hP hS hl)
theorem go_if_le {x : Int32} {off : Int} {tgt : Nat} (hd : decode cc pc = .ok (.ifCond .le off, 3)) (ht : (pc : Int) + off = (tgt : Int)) (kt : x ≤ 0 → Gq Φ U cc nL own tgt al st V) (kf : ¬ x ≤ 0 → Gq Φ U cc nL own (pc + 3) al st V) : Gq Φ U cc nL own pc al (aI x :: st) V := by
  intro p l e R s m args below meth c ad D dA A cells slots Qf hf hC H locs ls hP hS hl
  exact lv_if_le hC.1 hC.2.1 hd ht (fun h => kt h p l e R s m args below meth c ad D dA A cells slots Qf hf hC H locs ls hP hS hl) (fun h => kf h p l e R s m args below meth c ad D dA A cells slots Qf hf hC H locs ls hP hS hl)
theorem go_icmp_le {x y : Int32} {off : Int} {tgt : Nat} (hd : decode cc pc = .ok (.if_icmp .le off, 3)) (ht : (pc : Int) + off = (tgt : Int)) (kt : x ≤ y → Gq Φ U cc nL own tgt al st V) (kf : ¬ x ≤ y → Gq Φ U cc nL own (pc + 3) al st V) : Gq Φ U cc nL own pc al (aI y :: aI x :: st) V := by
  intro p l e R s m args below meth c ad D dA A cells slots Qf hf hC H locs ls hP hS hl
  exact lv_icmp_le hC.1 hC.2.1 hd ht (fun h => kt h p l e R s m args below meth c ad D dA A cells slots Qf hf hC H locs ls hP hS hl) (fun h => kf h p l e R s m args below meth c ad D dA A cells slots Qf hf hC H locs ls hP hS hl)
theorem go_goto {off : Int} {tgt : Nat} (hd : decode cc pc = .ok (.goto off, 3)) (ht : (pc : Int) + off = (tgt : Int)) (k : Gq Φ U cc nL own tgt al st V) : Gq Φ U cc nL own pc al st V := by
  intro p l e R s m args below meth c ad D dA A cells slots Qf hf hC H locs ls hP hS hl
  exact lv_goto hC.1 hC.2.1 hd ht (k p l e R s m args below meth c ad D dA A cells slots Qf hf hC H locs ls hP hS hl)
theorem go_tabOut {dflt lo hi : Int} {offs : Array Int} {len : Nat} {x : Int32} {tgt : Nat} (hd : decode cc pc = .ok (.tableswitch dflt lo hi offs, len)) (h : x.toInt < lo ∨ hi < x.toInt) (ht : (pc : Int) + dflt = (tgt : Int)) (k : Gq Φ U cc nL own tgt al st V) : Gq Φ U cc nL own pc al (aI x :: st) V := by
  intro p l e R s m args below meth c ad D dA A cells slots Qf hf hC H locs ls hP hS hl
  exact lv_tableOut hC.1 hC.2.1 hd h ht (k p l e R s m args below meth c ad D dA A cells slots Qf hf hC H locs ls hP hS hl)
theorem go_tabIn {dflt lo hi : Int} {offs : Array Int} {len : Nat} {x : Int32} {off : Int} {tgt : Nat} (hd : decode cc pc = .ok (.tableswitch dflt lo hi offs, len)) (h1 : ¬ x.toInt < lo) (h2 : ¬ hi < x.toInt) (ho : offs[(x.toInt - lo).toNat]? = some off) (ht : (pc : Int) + off = (tgt : Int)) (k : Gq Φ U cc nL own tgt al st V) : Gq Φ U cc nL own pc al (aI x :: st) V := by
  intro p l e R s m args below meth c ad D dA A cells slots Qf hf hC H locs ls hP hS hl
  exact lv_tableIn hC.1 hC.2.1 hd h1 h2 ho ht (k p l e R s m args below meth c ad D dA A cells slots Qf hf hC H locs ls hP hS hl)
theorem go_lookup {dflt : Int} {ps : Array (Int × Int)} {len : Nat} {x : Int32} {off : Int} {tgt : Nat} (hd : decode cc pc = .ok (.lookupswitch dflt ps, len)) (hp : (ps.toList.zip (ps.toList.drop 1)).all (fun (a, next) => a.1 < next.1) = true) (ho : Op.lookupswitch.offset ps.toList dflt x.toInt = off) (ht : (pc : Int) + off = (tgt : Int)) (k : Gq Φ U cc nL own tgt al st V) : Gq Φ U cc nL own pc al (aI x :: st) V := by
  intro p l e R s m args below meth c ad D dA A cells slots Qf hf hC H locs ls hP hS hl
  exact lv_lookup hC.1 hC.2.1 hd hp ho ht (k p l e R s m args below meth c ad D dA A cells slots Qf hf hC H locs ls hP hS hl)
theorem go_sub {al1 : List (Nat × AV)} (ks : List Nat) (h : ks.filterMap (fun k => al[k]?) = al1) (k : Gq Φ U cc nL own pc al1 st V) : Gq Φ U cc nL own pc al st V := by
  intro p l e R s m args below meth c ad D dA A cells slots Qf hf hC H locs ls hP hS hl
  refine k p l e R s m args below meth c ad D dA A cells slots Qf hf hC H locs ls hP hS (lv_sub hl ks ?_)
  subst h
  unfold lv_pick cvl
  rw [List.map_filterMap]
  congr 1
  funext q
  rw [List.getElem?_map]
theorem go_geto {idx r i k : Nat} {o : Option (Nat × (Nat → Nat))} (h : FG own idx r k o) (hd : decode cc pc = .ok (.getfield idx, 3)) (hm : (r, i) ∈ U) {v : AV} (hv : ∀ ad, fv1 ad (V r i) i k o = cv ad v) (kk : Gq Φ U cc nL own (pc + 3) al (v :: st) V) : Gq Φ U cc nL own pc al (aR r i :: st) V := by
  obtain ⟨ci, N, C, T, ks, h1, h2, h3, h4, h5, h6⟩ := h
  intro p l e R s m args below meth c ad D dA A cells slots Qf hf hC H locs ls hP hS hl
  obtain ⟨q, hq1, hq2⟩ := ws_at (ad := ad) (dA := dA) V hm
  have e1 : cE ad dA (V r i) r i = .inr (ci, fvs ad (V r i) i ks) := by unfold cE; rw [h1]
  rw [e1] at hq2
  exact va_get hC.1 hC.2.1 hC.2.2.2.2.1 h5 hC.2.2.2.1 hC.2.2.2.2.2.1 hP q hq2 h2 k h3 (hC.2.2.2.2.1 _ h6) (fun _ z => z) (by rw [fvs_get h4, hv]) hd (kk p l e R s m args below meth c ad D dA A cells slots Qf hf hC H locs ls hP hS hl)
theorem go_geti {idx r i k : Nat} (h : FG own idx r k none) (hd : decode cc pc = .ok (.getfield idx, 3)) (hm : (r, i) ∈ U) (kk : Gq Φ U cc nL own (pc + 3) al (aI (V r i k) :: st) V) : Gq Φ U cc nL own pc al (aR r i :: st) V := go_geto h hd hm (fun _ => rfl) kk
theorem go_getr {idx r i k r1 : Nat} {g : Nat → Nat} (h : FG own idx r k (some (r1, g))) (hd : decode cc pc = .ok (.getfield idx, 3)) (hm : (r, i) ∈ U) (kk : Gq Φ U cc nL own (pc + 3) al (aR r1 (g i) :: st) V) : Gq Φ U cc nL own pc al (aR r i :: st) V := go_geto h hd hm (fun _ => rfl) kk
theorem go_put {idx r i k : Nat} {ty : FieldType} {x : Int32} (h : FP own idx r k ty) (hd : decode cc pc = .ok (.putfield idx, 3)) (hm : (r, i) ∈ U) (hn : narrow ty (.int x) = .int x) (hfit : fits ty (.int x) = true) (kk : Gq Φ U cc nL own (pc + 3) al st (mu V r i k x)) : Gq Φ U cc nL own pc al (aI x :: aR r i :: st) V := by
  obtain ⟨ci, N, C, T, ks, ty0, h1, h2, h3, h4, h5, h6, h7, h8, h9, h10⟩ := h
  intro p l e R s m args below meth c ad D dA A cells slots Qf hf hC H locs ls hP hS hl
  obtain ⟨q, hq1, hq2⟩ := ws_at (ad := ad) (dA := dA) V hm
  have e1 : ∀ f, cE ad dA f r i = .inr (ci, fvs ad f i ks) := by intro f; unfold cE; rw [h1]
  rw [e1] at hq2
  have hD : va_D A (wsU ad dA U V) := (ws_D V hC.2.2.2.2.2.2.1).weaken (fun _ _ _ z => hC.2.2.2.2.2.2.2.1 _ z)
  refine va_put hC.1 hC.2.1 hC.2.2.2.2.1 h5 ty0 h7 h8 hC.2.2.2.1 hC.2.2.2.2.2.1 hP hD hS q hq2 h2 k h3 (hC.2.2.2.2.1 _ h6) (fun _ z => z) h9 h10 hn hfit (by rw [fvs_len]; exact (List.getElem?_eq_some_iff.mp h4).1) hd (fun H1 locs1 hP1 _ hS1 => ?_)
  rw [ws_set hC.2.2.2.2.2.2.1 hq1 (f := upd (V r i) k x) (by rw [e1, fvs_set h4]; rfl)] at hP1
  exact kk p l e R s m args below meth c ad D dA A cells slots Qf hf hC H1 locs1 ls hP1 hS1 hl
theorem go_puti {idx r i k : Nat} {x : Int32} (h : FP own idx r k .int) (hd : decode cc pc = .ok (.putfield idx, 3)) (hm : (r, i) ∈ U) (kk : Gq Φ U cc nL own (pc + 3) al st (mu V r i k x)) : Gq Φ U cc nL own pc al (aI x :: aR r i :: st) V := go_put h hd hm rfl rfl kk
theorem go_putz {idx r i k : Nat} {x : Int32} (h : FP own idx r k .boolean) (hd : decode cc pc = .ok (.putfield idx, 3)) (hm : (r, i) ∈ U) (hx : x = 0 ∨ x = 1) (kk : Gq Φ U cc nL own (pc + 3) al st (mu V r i k x)) : Gq Φ U cc nL own pc al (aI x :: aR r i :: st) V := by
  refine go_put h hd hm ?_ ?_ kk
  · rcases hx with rfl | rfl <;> rfl
  · rcases hx with rfl | rfl <;> rfl
theorem go_iald {r i n j : Nat} {x : Int32} (hs : sh r = .inr (n, .int, none)) (hn : n < 2 ^ 31) (hd : decode cc pc = .ok (.iaload, 1)) (hm : (r, i) ∈ U) (hx : x = nI j) (hj : j < n) (kk : Gq Φ U cc nL own (pc + 1) al (aI (V r i j) :: st) V) : Gq Φ U cc nL own pc al (aI x :: aR r i :: st) V := by
  intro p l e R s m args below meth c ad D dA A cells slots Qf hf hC H locs ls hP hS hl
  obtain ⟨q, hq1, hq2⟩ := ws_at (ad := ad) (dA := dA) V hm
  obtain ⟨t, ht⟩ := ty_at (dA := dA) hm hs
  have e1 : cE ad dA (V r i) r i = .inl (dA r i, n, .inl (V r i)) := by unfold cE; rw [hs]
  rw [e1] at hq2
  subst hx
  refine va_iald hC.1 hC.2.1 hC.2.2.2.2.2.1 hP q t hq2 ht (vp_in_nI hj hn) hd ?_
  rw [nI_clamp (by omega)]
  exact kk p l e R s m args below meth c ad D dA A cells slots Qf hf hC H locs ls hP hS hl
theorem go_iast {r i n j : Nat} {x v : Int32} (hs : sh r = .inr (n, .int, none)) (hn : n < 2 ^ 31) (hd : decode cc pc = .ok (.iastore, 1)) (hm : (r, i) ∈ U) (hx : x = nI j) (hj : j < n) (kk : Gq Φ U cc nL own (pc + 1) al st (mu V r i j v)) : Gq Φ U cc nL own pc al (aI v :: aI x :: aR r i :: st) V := by
  intro p l e R s m args below meth c ad D dA A cells slots Qf hf hC H locs ls hP hS hl
  obtain ⟨q, hq1, hq2⟩ := ws_at (ad := ad) (dA := dA) V hm
  obtain ⟨t, ht⟩ := ty_at (dA := dA) hm hs
  have e1 : ∀ f, cE ad dA f r i = .inl (dA r i, n, .inl f) := by intro f; unfold cE; rw [hs]
  rw [e1] at hq2
  have hD : va_D A (wsU ad dA U V) := (ws_D V hC.2.2.2.2.2.2.1).weaken (fun _ _ _ z => hC.2.2.2.2.2.2.2.1 _ z)
  subst hx
  refine va_iast hC.1 hC.2.1 hC.2.2.2.2.2.1 hP hD hS q t hq2 ht (vp_in_nI hj hn) hd (fun H1 locs1 hP1 _ hS1 => ?_)
  rw [nI_clamp (by omega)] at hP1

  rw [ws_set hC.2.2.2.2.2.2.1 hq1 (f := upd (V r i) j v) (by rw [e1])] at hP1
  exact kk p l e R s m args below meth c ad D dA A cells slots Qf hf hC H1 locs1 ls hP1 hS1 hl
theorem go_zald {r i n j : Nat} {x : Int32} (hs : sh r = .inr (n, .boolean, none)) (hn : n < 2 ^ 31) (hd : decode cc pc = .ok (.baload, 1)) (hm : (r, i) ∈ U) (hx : x = nI j) (hj : j < n) (kk : Gq Φ U cc nL own (pc + 1) al (aI (V r i j) :: st) V) : Gq Φ U cc nL own pc al (aI x :: aR r i :: st) V := by
  intro p l e R s m args below meth c ad D dA A cells slots Qf hf hC H locs ls hP hS hl
  obtain ⟨q, hq1, hq2⟩ := ws_at (ad := ad) (dA := dA) V hm
  obtain ⟨t, ht⟩ := ty_at (dA := dA) hm hs
  have e1 : cE ad dA (V r i) r i = .inl (dA r i, n, .inl (V r i)) := by unfold cE; rw [hs]
  rw [e1] at hq2
  subst hx
  refine va_zald hC.1 hC.2.1 hC.2.2.2.2.2.1 hP q t hq2 ht (vp_in_nI hj hn) hd ?_
  rw [nI_clamp (by omega)]
  exact kk p l e R s m args below meth c ad D dA A cells slots Qf hf hC H locs ls hP hS hl
theorem go_zast {r i n j : Nat} {x v : Int32} (hs : sh r = .inr (n, .boolean, none)) (hn : n < 2 ^ 31) (hd : decode cc pc = .ok (.bastore, 1)) (hm : (r, i) ∈ U) (hx : x = nI j) (hj : j < n) (hv : v = 0 ∨ v = 1) (kk : Gq Φ U cc nL own (pc + 1) al st (mu V r i j v)) : Gq Φ U cc nL own pc al (aI v :: aI x :: aR r i :: st) V := by
  intro p l e R s m args below meth c ad D dA A cells slots Qf hf hC H locs ls hP hS hl
  obtain ⟨q, hq1, hq2⟩ := ws_at (ad := ad) (dA := dA) V hm
  obtain ⟨t, ht⟩ := ty_at (dA := dA) hm hs
  have e1 : ∀ f, cE ad dA f r i = .inl (dA r i, n, .inl f) := by intro f; unfold cE; rw [hs]
  rw [e1] at hq2
  have hD : va_D A (wsU ad dA U V) := (ws_D V hC.2.2.2.2.2.2.1).weaken (fun _ _ _ z => hC.2.2.2.2.2.2.2.1 _ z)
  subst hx
  refine va_zast hC.1 hC.2.1 hC.2.2.2.2.2.1 hP hD hS q t hq2 ht (vp_in_nI hj hn) hd (fun H1 locs1 hP1 _ hS1 => ?_)
  rw [nI_clamp (by omega)] at hP1
  rw [show vp_nar .boolean v = v by rcases hv with rfl | rfl <;> rfl] at hP1
  rw [ws_set hC.2.2.2.2.2.2.1 hq1 (f := upd (V r i) j v) (by rw [e1])] at hP1
  exact kk p l e R s m args below meth c ad D dA A cells slots Qf hf hC H1 locs1 ls hP1 hS1 hl
theorem go_cald {r i n j : Nat} {x : Int32} (hs : sh r = .inr (n, .char, none)) (hn : n < 2 ^ 31) (hd : decode cc pc = .ok (.caload, 1)) (hm : (r, i) ∈ U) (hx : x = nI j) (hj : j < n) (kk : Gq Φ U cc nL own (pc + 1) al (aI (V r i j) :: st) V) : Gq Φ U cc nL own pc al (aI x :: aR r i :: st) V := by
  intro p l e R s m args below meth c ad D dA A cells slots Qf hf hC H locs ls hP hS hl
  obtain ⟨q, hq1, hq2⟩ := ws_at (ad := ad) (dA := dA) V hm
  obtain ⟨t, ht⟩ := ty_at (dA := dA) hm hs
  have e1 : cE ad dA (V r i) r i = .inl (dA r i, n, .inl (V r i)) := by unfold cE; rw [hs]
  rw [e1] at hq2
  subst hx
  refine va_cald hC.1 hC.2.1 hC.2.2.2.2.2.1 hP q t hq2 ht (vp_in_nI hj hn) hd ?_
  rw [nI_clamp (by omega)]
  exact kk p l e R s m args below meth c ad D dA A cells slots Qf hf hC H locs ls hP hS hl
theorem go_aald {r i n j r1 : Nat} {ty : FieldType} {g : Nat → Nat → Nat} {x : Int32} (hs : sh r = .inr (n, ty, some (r1, g))) (hty : ty.isReference = true) (hn : n < 2 ^ 31) (hd : decode cc pc = .ok (.aaload, 1)) (hm : (r, i) ∈ U) (hx : x = nI j) (hj : j < n) (kk : Gq Φ U cc nL own (pc + 1) al (aR r1 (g i j) :: st) V) : Gq Φ U cc nL own pc al (aI x :: aR r i :: st) V := by
  intro p l e R s m args below meth c ad D dA A cells slots Qf hf hC H locs ls hP hS hl
  obtain ⟨q, hq1, hq2⟩ := ws_at (ad := ad) (dA := dA) V hm
  obtain ⟨t, ht⟩ := ty_at (dA := dA) hm hs
  have e1 : cE ad dA (V r i) r i = .inl (dA r i, n, .inr (.inr (.inr (.inr (fun j => some (ad r1 (g i j))))))) := by unfold cE; rw [hs]
  rw [e1] at hq2
  subst hx
  have hlt : (nI j).toNatClampNeg < n := by rw [nI_clamp (by omega)]; exact hj
  refine W.aald (v := va_rf (some (ad r1 (g i (nI j).toNatClampNeg)))) (ty := ty) hC.1 hC.2.1 (hP q _ hq2) ((hC.2.2.2.2.2.1.2 t _ ht).1 n (fun j => va_rf (some (ad r1 (g i j))))) hty (fun q => by cases q) (by show ¬ (nI j < 0 ∨ (arrV _ _ _).slots.size ≤ _); rw [arrV_size]; exact vp_in_nI hj hn) (by show (arrV _ _ _).slots[_]? = _; rw [arrV_read _ _ hlt]) rfl rfl hd ?_
  rw [nI_clamp (by omega)]
  exact kk p l e R s m args below meth c ad D dA A cells slots Qf hf hC H locs ls hP hS hl
theorem go_copy {idx r0 i0 r1 i1 n0 n1 a b z : Nat} {sp dp n : Int32} (hl0 : Cond.methodLink own idx arraycopyName ∈ WSU) (hl1 : Cond.native arraycopyName ∈ WSU) (hl2 : Cond.static arraycopyName ∈ WSU) (hl3 : Cond.initialized "java/lang/System" ∈ WSU) (hR : HR Φ 0) (hs0 : sh r0 = .inr (n0, .int, none)) (hs1 : sh r1 = .inr (n1, .int, none)) (hn0 : n0 < 2 ^ 31) (hn1 : n1 < 2 ^ 31) (hd : decode cc pc = .ok (.invokestatic idx, 3)) (hm0 : (r0, i0) ∈ U) (hm1 : (r1, i1) ∈ U) (hst : st = [])
    (hsp : sp = nI a) (hdp : dp = nI b) (hz : n = nI z) (h0 : a + z ≤ n0) (h1 : b + z ≤ n1) (kk : Gq Φ U cc nL own (pc + 3) al st (ma V r1 i1 (va_cpy (V r0 i0) (V r1 i1) a b z))) : Gq Φ U cc nL own pc al (aI n :: aI dp :: aR r1 i1 :: aI sp :: aR r0 i0 :: st) V := by
  intro p l e R s m args below meth c ad D dA A cells slots Qf hf hC H locs ls hP hS hl
  obtain ⟨q0, hq1, hq2⟩ := ws_at (ad := ad) (dA := dA) V hm0
  obtain ⟨q1, hq3, hq4⟩ := ws_at (ad := ad) (dA := dA) V hm1
  obtain ⟨t0, ht0⟩ := ty_at (dA := dA) hm0 hs0
  obtain ⟨t1, ht1⟩ := ty_at (dA := dA) hm1 hs1
  have e0 : ∀ f, cE ad dA f r0 i0 = .inl (dA r0 i0, n0, .inl f) := by intro f; unfold cE; rw [hs0]
  have e1 : ∀ f, cE ad dA f r1 i1 = .inl (dA r1 i1, n1, .inl f) := by intro f; unfold cE; rw [hs1]
  rw [e0] at hq2
  rw [e1] at hq4
  have hD : va_D A (wsU ad dA U V) := (ws_D V hC.2.2.2.2.2.2.1).weaken (fun _ _ _ z => hC.2.2.2.2.2.2.2.1 _ z)
  subst hsp; subst hdp; subst hz; subst hst
  obtain ⟨hr1, hr2, hr3, hr4⟩ := hR p l e R s m args below meth c ad D dA A cells slots Qf hf
  have ca : (nI a).toNatClampNeg = a := nI_clamp (by omega)
  have cb : (nI b).toNatClampNeg = b := nI_clamp (by omega)
  have cz : (nI z).toNatClampNeg = z := nI_clamp (by omega)
  have e9 : nativeFrameWords "java/lang/System" "arraycopy" 5 ≤ 50 := by decide
  refine va_copyi (sp := nI a) (dp := nI b) (n := nI z) (rest := []) hC.1 hC.2.1 (by rw [hC.2.2.1, hl.1]) hC.2.2.2.1 (hC.2.2.2.2.1 _ hl0) (hC.2.2.2.2.1 _ hl1) (hC.2.2.2.2.1 _ hl2) (hC.2.2.2.2.1 _ hl3) hC.2.2.2.2.2.1 hP hD hS q0 q1 t0 t1 hq2 hq4 ht0 ht1 rfl (nI_pos (by omega)) (nI_pos (by omega)) (nI_pos (by omega)) (by rw [ca, cz]; exact h0) (by rw [cb, cz]; exact h1) (fun _ _ => rfl) (by omega) (by show 0 + (nativeFrameWords "java/lang/System" "arraycopy" 5 + 11) ≤ R.locals; omega) hd (fun H1 locs1 hP1 _ hS1 => ?_)
  rw [ca, cb, cz] at hP1
  rw [ws_set hC.2.2.2.2.2.2.1 hq3 (f := va_cpy (V r0 i0) (V r1 i1) a b z) (by rw [e1])] at hP1
  exact kk p l e R s m args below meth c ad D dA A cells slots Qf hf hC H1 locs1 ls hP1 hS1 hl
theorem go_mmax {idx : Nat} {x y : Int32} (hl0 : Cond.methodLink own idx Lib.Math.max.name ∈ WSU) (hl1 : Cond.static Lib.Math.max.name ∈ WSU) (hl2 : Cond.initialized "java/lang/Math" ∈ WSU) (hl3 : Cond.code Lib.Math.max.name Lib.Math.max.code 2 (some .int) ∈ WSU) (hR : HR Φ 0) (hW : (st.map fun v => if isW v then 2 else 1).sum ≤ 8) (hd : decode cc pc = .ok (.invokestatic idx, 3)) (kk : Gq Φ U cc nL own (pc + 3) al (aI (if x < y then y else x) :: st) V) : Gq Φ U cc nL own pc al (aI y :: aI x :: st) V := by
  intro p l e R s m args below meth c ad D dA A cells slots Qf hf hC H locs ls hP hS hl
  obtain ⟨hr1, hr2, hr3, hr4⟩ := hR p l e R s m args below meth c ad D dA A cells slots Qf hf
  exact va_mmax hC.1 hC.2.1 (by rw [hC.2.2.1, hl.1]) hC.2.2.2.1 (hC.2.2.2.2.1 _ hl0) (hC.2.2.2.2.1 _ hl1) (hC.2.2.2.2.1 _ hl2) (hC.2.2.2.2.1 _ hl3) (by omega) (by rw [cat_sum]; omega) hr3 hr4 hd (kk p l e R s m args below meth c ad D dA A cells slots Qf hf hC H locs ls hP hS hl)
theorem go_mmin {idx : Nat} {x y : Int32} (hl0 : Cond.methodLink own idx Lib.Math.min.name ∈ WSU) (hl1 : Cond.static Lib.Math.min.name ∈ WSU) (hl2 : Cond.initialized "java/lang/Math" ∈ WSU) (hl3 : Cond.code Lib.Math.min.name Lib.Math.min.code 2 (some .int) ∈ WSU) (hR : HR Φ 0) (hW : (st.map fun v => if isW v then 2 else 1).sum ≤ 8) (hd : decode cc pc = .ok (.invokestatic idx, 3)) (kk : Gq Φ U cc nL own (pc + 3) al (aI (if y < x then y else x) :: st) V) : Gq Φ U cc nL own pc al (aI y :: aI x :: st) V := by
  intro p l e R s m args below meth c ad D dA A cells slots Qf hf hC H locs ls hP hS hl
  obtain ⟨hr1, hr2, hr3, hr4⟩ := hR p l e R s m args below meth c ad D dA A cells slots Qf hf
  exact va_mmin hC.1 hC.2.1 (by rw [hC.2.2.1, hl.1]) hC.2.2.2.1 (hC.2.2.2.2.1 _ hl0) (hC.2.2.2.2.1 _ hl1) (hC.2.2.2.2.1 _ hl2) (hC.2.2.2.2.1 _ hl3) (by omega) (by rw [cat_sum]; omega) hr3 hr4 hd (kk p l e R s m args below meth c ad D dA A cells slots Qf hf hC H locs ls hP hS hl)
theorem go_mabs {idx : Nat} {x : Int32} (hl0 : Cond.methodLink own idx Lib.Math.abs.name ∈ WSU) (hl1 : Cond.static Lib.Math.abs.name ∈ WSU) (hl2 : Cond.initialized "java/lang/Math" ∈ WSU) (hl3 : Cond.code Lib.Math.abs.name Lib.Math.abs.code 1 (some .int) ∈ WSU) (hR : HR Φ 0) (hW : (st.map fun v => if isW v then 2 else 1).sum ≤ 8) (hd : decode cc pc = .ok (.invokestatic idx, 3)) (kk : Gq Φ U cc nL own (pc + 3) al (aI (if 0 ≤ x then x else 0 - x) :: st) V) : Gq Φ U cc nL own pc al (aI x :: st) V := by
  intro p l e R s m args below meth c ad D dA A cells slots Qf hf hC H locs ls hP hS hl
  obtain ⟨hr1, hr2, hr3, hr4⟩ := hR p l e R s m args below meth c ad D dA A cells slots Qf hf
  exact va_mabs hC.1 hC.2.1 (by rw [hC.2.2.1, hl.1]) hC.2.2.2.1 (hC.2.2.2.2.1 _ hl0) (hC.2.2.2.2.1 _ hl1) (hC.2.2.2.2.1 _ hl2) (hC.2.2.2.2.1 _ hl3) (by omega) (by rw [cat_sum]; omega) hr3 hr4 hd (kk p l e R s m args below meth c ad D dA A cells slots Qf hf hC H locs ls hP hS hl)
end ROWS
