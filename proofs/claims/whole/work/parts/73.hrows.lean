/-! ===== making: rows ===== -/
def HRI (Φ : KJ) (d K : Nat) : Prop := ∀ (p : Program) (l : Launch) (e : Env) (R : Room) (s : State) (m : MethodId) (args : Array Value) (below : List Frame) (meth : Method) (c : Code) (ad : Nat → Nat → Nat) (D : va_G) (dA : Nat → Nat → ClassId) (B k0 : Nat) (Qf : State → Prop),
    Φ p l e R s m args below meth c ad D dA B k0 Qf → d + 1 ≤ R.frames ∧ 64 * d + 64 ≤ R.locals ∧ ∀ k, k ≤ K → k - k0 ≤ R.cells ∧ SLT k - SLT k0 ≤ R.slots
def HNI (Φ : KJ) : Prop := ∀ (p : Program) (l : Launch) (e : Env) (R : Room) (s : State) (m : MethodId) (args : Array Value) (below : List Frame) (meth : Method) (c : Code) (ad : Nat → Nat → Nat) (D : va_G) (dA : Nat → Nat → ClassId) (B k0 : Nat) (Qf : State → Prop),
    Φ p l e R s m args below meth c ad D dA B k0 Qf → meth.name = "<init>"
theorem hri_KI {d d' k k1 K : Nat} {P : Mem → Prop} (h : d' ≤ d) (hK : K ≤ k1) : HRI (KI (d + 1) k k1 P) d' K := by
  intro p l e R s m args below meth c ad D dA B k0 Qf hf
  obtain ⟨rfl, rfl, -⟩ := hf
  refine ⟨?_, ?_, fun q hq => ⟨?_, ?_⟩⟩
  · show d' + 1 ≤ d + 1
    omega
  · show 64 * d' + 64 ≤ 64 * (d + 1)
    omega
  · show q - k0 ≤ k1 - k0
    omega
  · show SLT q - SLT k0 ≤ SLT k1 - SLT k0
    have := SLT_mono (show q ≤ k1 by omega)
    omega
theorem hni_KI {d k k1 : Nat} {P : Mem → Prop} : HNI (KI d k k1 P) := fun _ _ _ _ _ _ _ _ _ _ _ _ _ _ _ _ hf => hf.2.2.2.2.2
/-- the words of a class whose objects are made -/
def NWC (own : String) (idx r : Nat) : Prop := ∃ (ci N : Nat) (C : String) (T : u_T) (ks : List (Option (Nat × (Nat → Nat)))) (ty0 : Nat → FieldType), sh r = .inl (ci, ks) ∧ vwCl[ci]? = some (C, T, N) ∧ ks.length = N ∧ (∀ w ∈ u_ws C T N, w ∈ WSU) ∧ (∀ k, k < N → parseFieldDescriptor (T k).2.2.1 = some (ty0 k)) ∧ Cond.classLink own idx C ∈ WSU ∧ Cond.instantiable C N ∈ WSU ∧ Cond.initialized C ∈ WSU ∧ ∀ (ad : Nat → Nat → Nat) (i : Nat), ∀ j, j < N → defaultValue (ty0 j) = vp_V (fvsN ad (fun _ => 0) i ks) j
/-- the words of a final field of references -/
def FF (own : String) (idx r k r1 : Nat) (g : Nat → Nat) : Prop := ∃ (ci N : Nat) (C : String) (T : u_T) (ks : List (Option (Nat × (Nat → Nat)))) (ty0 : Nat → FieldType) (ty : FieldType), sh r = .inl (ci, ks) ∧ vwCl[ci]? = some (C, T, N) ∧ k < N ∧ ks[k]? = some (some (r1, g)) ∧ (∀ w ∈ u_ws C T N, w ∈ WSU) ∧ Cond.fieldLink own idx (T k).1 (T k).2.1 (T k).2.2.1 ∈ WSU ∧ (∀ k, k < N → parseFieldDescriptor (T k).2.2.1 = some (ty0 k)) ∧ (∀ a, a < N → ∀ b, b < N → a ≠ b → (T a).2.1 ≠ (T b).2.1) ∧ (T k).2.2.2 = true ∧ (T k).1 = own ∧ parseFieldDescriptor (T k).2.2.1 = some ty ∧ ∀ a, narrow ty (.ref a) = .ref a ∧ fits ty (.ref a) = true
section HROWS
variable {Φ : KJ} {cc : ByteArray} {nL : Nat} {own : String} {pc : Nat} {al : List (Nat × AV)} {st : List AV} {k : Nat} {V : Mem}
theorem fvsN_get {ad : Nat → Nat → Nat} {f : Nat → Int32} {i k : Nat} {ks : List (Option (Nat × (Nat → Nat)))} {o : Option (Nat × (Nat → Nat))} (h : ks[k]? = some o) : (fvsN ad f i ks)[k]? = some (fvN ad f i k o) := by
  rw [fvsN, List.getElem?_mapIdx, h]; rfl
theorem fvsN_len {ad : Nat → Nat → Nat} {f : Nat → Int32} {i : Nat} {ks : List (Option (Nat × (Nat → Nat)))} : (fvsN ad f i ks).length = ks.length := by
  rw [fvsN, List.length_mapIdx]
theorem fvsN_set {ad : Nat → Nat → Nat} {f : Nat → Int32} {i k : Nat} {x : Int32} {v : Value} {ks : List (Option (Nat × (Nat → Nat)))} {o : Option (Nat × (Nat → Nat))} (h : ks[k]? = some o) (hv : fvN ad (upd f k x) i k o = v) : fvsN ad (upd f k x) i ks = (fvsN ad f i ks).set k v := by
  apply List.ext_getElem?
  intro j
  by_cases hj : j = k
  · subst hj
    have hl : j < (fvsN ad f i ks).length := by rw [fvsN_len]; exact (List.getElem?_eq_some_iff.mp h).1
    rw [List.getElem?_set_self hl, fvsN_get h, hv]
  · rw [List.getElem?_set_ne (Ne.symm hj), fvsN, fvsN, List.getElem?_mapIdx, List.getElem?_mapIdx]
    cases hk : ks[j]? with
    | none => rfl
    | some o =>
      cases o with
      | none => simp [upd, hj, fvN]
      | some q => simp [upd, hj, fvN]
theorem ho_iconst {n : Int} {v : Int32} (hd : decode cc pc = .ok (.iconst n, 1)) (hv : Int32.ofInt n = v) (kk : Hq Φ cc nL own (pc + 1) al (aI v :: st) k V) : Hq Φ cc nL own pc al st k V := by
  intro p l e R s m args below meth c ad D dA B k0 Qf hf hC H locs ls hP hS hz hk hl
  exact lv_iconst hC.1 hC.2.1 hd hv (kk p l e R s m args below meth c ad D dA B k0 Qf hf hC H locs ls hP hS hz hk hl)
theorem ho_bipush {n : Int} {v : Int32} (hd : decode cc pc = .ok (.bipush n, 2)) (hv : (Int8.ofInt n).toInt32 = v) (kk : Hq Φ cc nL own (pc + 2) al (aI v :: st) k V) : Hq Φ cc nL own pc al st k V := by
  intro p l e R s m args below meth c ad D dA B k0 Qf hf hC H locs ls hP hS hz hk hl
  exact lv_bipush hC.1 hC.2.1 hd hv (kk p l e R s m args below meth c ad D dA B k0 Qf hf hC H locs ls hP hS hz hk hl)
theorem ho_sipush {n : Int} {v : Int32} (hd : decode cc pc = .ok (.sipush n, 3)) (hv : (Int16.ofInt n).toInt32 = v) (kk : Hq Φ cc nL own (pc + 3) al (aI v :: st) k V) : Hq Φ cc nL own pc al st k V := by
  intro p l e R s m args below meth c ad D dA B k0 Qf hf hC H locs ls hP hS hz hk hl
  exact lv_sipush hC.1 hC.2.1 hd hv (kk p l e R s m args below meth c ad D dA B k0 Qf hf hC H locs ls hP hS hz hk hl)
theorem ho_ldc {ix : Nat} {v : Int32} (hd : decode cc pc = .ok (.ldc ix, 2)) (hw : Cond.constant own ix v ∈ WSU) (kk : Hq Φ cc nL own (pc + 2) al (aI v :: st) k V) : Hq Φ cc nL own pc al st k V := by
  intro p l e R s m args below meth c ad D dA B k0 Qf hf hC H locs ls hP hS hz hk hl
  exact lv_ldc hC.1 hC.2.1 hC.2.2.2.1 (hC.2.2.2.2.1 _ hw) hd (kk p l e R s m args below meth c ad D dA B k0 Qf hf hC H locs ls hP hS hz hk hl)
theorem ho_iload_n {n : Fin 4} {i q : Nat} {x : Int32} (hd : decode cc pc = .ok (.iload_n n, 1)) (hi : (n : Nat) = i) (hv : al[q]? = some (i, aI x)) (kk : Hq Φ cc nL own (pc + 1) al (aI x :: st) k V) : Hq Φ cc nL own pc al st k V := by
  intro p l e R s m args below meth c ad D dA B k0 Qf hf hC H locs ls hP hS hz hk hl
  exact lv_iload_n hC.1 hC.2.1 hd hi (lv_al hl hv) (kk p l e R s m args below meth c ad D dA B k0 Qf hf hC H locs ls hP hS hz hk hl)
theorem ho_aload_n {n : Fin 4} {i q r j : Nat} (hd : decode cc pc = .ok (.aload_n n, 1)) (hi : (n : Nat) = i) (hv : al[q]? = some (i, aR r j)) (kk : Hq Φ cc nL own (pc + 1) al (aR r j :: st) k V) : Hq Φ cc nL own pc al st k V := by
  intro p l e R s m args below meth c ad D dA B k0 Qf hf hC H locs ls hP hS hz hk hl
  exact lv_aload_n hC.1 hC.2.1 hd hi (lv_al hl hv) (kk p l e R s m args below meth c ad D dA B k0 Qf hf hC H locs ls hP hS hz hk hl)
theorem ho_istore_n {n : Fin 4} {i : Nat} {x : Int32} {al1 : List (Nat × AV)} (hd : decode cc pc = .ok (.istore_n n, 1)) (hi : (n : Nat) = i) (hn : i < nL) (ha : st1 i (aI x) al = al1) (kk : Hq Φ cc nL own (pc + 1) al1 st k V) : Hq Φ cc nL own pc al (aI x :: st) k V := by
  intro p l e R s m args below meth c ad D dA B k0 Qf hf hC H locs ls hP hS hz hk hl
  subst ha
  exact lv_istore_n hC.1 hC.2.1 hd hi hl hn (st1_map ad i (aI x) al) (fun ls1 hl1 => kk p l e R s m args below meth c ad D dA B k0 Qf hf hC H locs ls1 hP hS hz hk hl1)
theorem ho_astore_n {n : Fin 4} {i r j : Nat} {al1 : List (Nat × AV)} (hd : decode cc pc = .ok (.astore_n n, 1)) (hi : (n : Nat) = i) (hn : i < nL) (ha : st1 i (aR r j) al = al1) (kk : Hq Φ cc nL own (pc + 1) al1 st k V) : Hq Φ cc nL own pc al (aR r j :: st) k V := by
  intro p l e R s m args below meth c ad D dA B k0 Qf hf hC H locs ls hP hS hz hk hl
  subst ha
  exact lv_astore_n hC.1 hC.2.1 hd hi hl hn (st1_map ad i (aR r j) al) (fun ls1 hl1 => kk p l e R s m args below meth c ad D dA B k0 Qf hf hC H locs ls1 hP hS hz hk hl1)
theorem ho_iinc {i q : Nat} {n : Int} {x y : Int32} {al1 : List (Nat × AV)} (hd : decode cc pc = .ok (.iinc i n, 3)) (hv : al[q]? = some (i, aI x)) (hy : Int32.ofInt n = y) (hn : i < nL) (ha : st1 i (aI (x + y)) al = al1) (kk : Hq Φ cc nL own (pc + 3) al1 st k V) : Hq Φ cc nL own pc al st k V := by
  intro p l e R s m args below meth c ad D dA B k0 Qf hf hC H locs ls hP hS hz hk hl
  subst ha
  subst hy
  exact lv_iinc (k := q) (x := x) hC.1 hC.2.1 hd hl (by rw [cvl, List.getElem?_map, hv]; rfl) rfl hn (st1_map ad i (aI (x + Int32.ofInt n)) al) (fun ls1 hl1 => kk p l e R s m args below meth c ad D dA B k0 Qf hf hC H locs ls1 hP hS hz hk hl1)
theorem ho_dup {a : AV} (hd : decode cc pc = .ok (.dup, 1)) (ha : isW a = false) (kk : Hq Φ cc nL own (pc + 1) al (a :: a :: st) k V) : Hq Φ cc nL own pc al (a :: st) k V := by
  intro p l e R s m args below meth c ad D dA B k0 Qf hf hC H locs ls hP hS hz hk hl
  exact lv_dup hC.1 hC.2.1 hd (cat1 ad ha) (kk p l e R s m args below meth c ad D dA B k0 Qf hf hC H locs ls hP hS hz hk hl)
theorem ho_icmp_ge {x y : Int32} {off : Int} {tgt : Nat} (hd : decode cc pc = .ok (.if_icmp .ge off, 3)) (ht : (pc : Int) + off = (tgt : Int)) (kt : y ≤ x → Hq Φ cc nL own tgt al st k V) (kf : ¬ y ≤ x → Hq Φ cc nL own (pc + 3) al st k V) : Hq Φ cc nL own pc al (aI y :: aI x :: st) k V := by
  intro p l e R s m args below meth c ad D dA B k0 Qf hf hC H locs ls hP hS hz hk hl
  exact lv_icmp_ge hC.1 hC.2.1 hd ht (fun h => kt h p l e R s m args below meth c ad D dA B k0 Qf hf hC H locs ls hP hS hz hk hl) (fun h => kf h p l e R s m args below meth c ad D dA B k0 Qf hf hC H locs ls hP hS hz hk hl)
theorem ho_goto {off : Int} {tgt : Nat} (hd : decode cc pc = .ok (.goto off, 3)) (ht : (pc : Int) + off = (tgt : Int)) (kk : Hq Φ cc nL own tgt al st k V) : Hq Φ cc nL own pc al st k V := by
  intro p l e R s m args below meth c ad D dA B k0 Qf hf hC H locs ls hP hS hz hk hl
  exact lv_goto hC.1 hC.2.1 hd ht (kk p l e R s m args below meth c ad D dA B k0 Qf hf hC H locs ls hP hS hz hk hl)
/-- Object's own <init> -/
theorem ho_obj {idx d K r i : Nat} (hR : HRI Φ d K) (hl0 : Cond.methodLink own idx Lib.objectInit ∈ WSU) (hl1 : Cond.instanceMethod Lib.objectInit ∈ WSU) (hl2 : Cond.code Lib.objectInit ⟨#[0xb1]⟩ 1 none ∈ WSU) (hd : decode cc pc = .ok (.invokespecial idx, 3)) (kk : Hq Φ cc nL own (pc + 3) al [] k V) : Hq Φ cc nL own pc al [aR r i] k V := by
  intro p l e R s m args below meth c ad D dA B k0 Qf hf hC H locs ls hP hS hz hk hl
  obtain ⟨hr1, hr2, -⟩ := hR p l e R s m args below meth c ad D dA B k0 Qf hf
  have hts := hC.2.2.2.2.1
  exact W.objInit hC.1 hC.2.1 hC.2.2.2.1 (hts _ hl0) (hts _ hl1) (hts _ hl2) rfl (by rw [hC.2.2.1]; exact hl.1) (a := ad r i) (rest := []) rfl hd (by omega) (Nat.le_trans (Nat.le_of_ble_eq_true rfl : _ ≤ 64) (by omega)) (kk p l e R s m args below meth c ad D dA B k0 Qf hf hC H locs ls hP hS hz hk hl)
/-- a new object -/
theorem ho_new {idx d K r i : Nat} (hR : HRI Φ d K) (hK : k + 1 ≤ K) (hO : Ord[k]? = some (r, i)) (hW : NWC own idx r) (hd : decode cc pc = .ok (.new idx, 3)) (kk : Hq Φ cc nL own (pc + 3) al (aR r i :: st) (k + 1) (ma V r i (fun _ => 0))) : Hq Φ cc nL own pc al st k V := by
  obtain ⟨ci, N, C, T, ks, ty0, h1, h2, h3, h4, h5, h6, h7, h8, h9⟩ := hW
  intro p l e R s m args below meth c ad D dA B k0 Qf hf hC H locs ls hP hS hz hk hl
  obtain ⟨hr1, hr2, hr3⟩ := hR p l e R s m args below meth c ad D dA B k0 Qf hf
  have hts := hC.2.2.2.2.1
  have hAd := hC.2.2.2.2.2.2.1
  have hKn := hC.2.2.2.2.2.1.1 ci _ h2
  have es : SLT (k + 1) = SLT k + N := by
    rw [SLT_s hO]
    have : slen r = N := by unfold slen; rw [h1]; exact h3
    rw [this]
  have hm := SLT_mono hk
  have ea : ad r i = B + k := hAd k _ hO
  refine W.newcK hC.1 hC.2.1 hC.2.2.2.1 (hts _ h6) (hts _ h7) (hts _ h8) rfl hd (by have := (hr3 (k + 1) hK).1; omega) (by have := (hr3 (k + 1) hK).2; omega) hKn.2.1 (h := B + k) hz fun H1 kC hkC e1 z1 o1 => ?_
  have hk9 : ∀ (j : Nat) (x : Nat × va_E), (wsK ad dA k V)[j]? = some x → H1[x.1]? = H[x.1]? := fun j x hx => o1 x.1 (by rw [← hz]; exact (hP j x hx).lt)
  have eC : cEN ad dA (fun _ => 0) r i = .inr (ci, fvsN ad (fun _ => 0) i ks) := by unfold cEN; rw [h1]
  have hP1 : va_P D vwCl (wsK ad dA (k + 1) (ma V r i (fun _ => 0))) H1 := by
    rw [wk_push V hO]
    refine (hP.kept hk9).app (fun j x hx => ?_)
    have hj : j < 1 := (List.getElem?_eq_some_iff.mp hx).1
    rw [show j = 0 by omega] at hx
    cases hx
    rw [eC, ea]
    exact ⟨_, h2, (u_born ty0 hts h4 hKn hkC e1 h5).to (h9 ad i)⟩
  have hS1 : va_S (fun q => B ≤ q) s.heap H1 locs := ⟨Nat.le_trans hS.1 (by omega), fun x q1 q2 => (o1 x (by rw [← hz]; exact Nat.lt_of_lt_of_le q1 hS.1)).trans (hS.2.1 x q1 q2), hS.2.2⟩
  have := kk p l e R s m args below meth c ad D dA B k0 Qf hf hC H1 locs ls hP1 hS1 (by omega) (by omega) hl
  rw [show k + 1 - k0 = k - k0 + 1 by omega, show SLT (k + 1) - SLT k0 = SLT k - SLT k0 + N by omega] at this
  have e2 : (aR r i :: st).map (cv ad) = .ref (B + k) :: st.map (cv ad) := by rw [List.map_cons]; show Value.ref (ad r i) :: _ = _; rw [ea]
  rw [e2] at this
  exact this
/-- a new row of numbers -/
theorem ho_newa {d K r i n : Nat} {x : Int32} {atype : ArrayType} (hR : HRI Φ d K) (hK : k + 1 ≤ K) (hO : Ord[k]? = some (r, i)) (hs : sh r = .inr (n, newarray.typeOf atype, none)) (hw : Cond.arrayClass (newarray.typeOf atype) ∈ WSU) (hx : x = nI n) (hn : n ≤ 2000) (hb : n * componentBytes (newarray.typeOf atype) ≤ 536870912) (hdf : defaultValue (newarray.typeOf atype) = .int 0) (hobj : ∀ C, ¬ newarray.typeOf atype = .object C) (hd : decode cc pc = .ok (.newarray atype, 2)) (kk : Hq Φ cc nL own (pc + 2) al (aR r i :: st) (k + 1) (ma V r i (fun _ => 0))) : Hq Φ cc nL own pc al (aI x :: st) k V := by
  intro p l e R s m args below meth c ad D dA B k0 Qf hf hC H locs ls hP hS hz hk hl
  obtain ⟨hr1, hr2, hr3⟩ := hR p l e R s m args below meth c ad D dA B k0 Qf hf
  have hts := hC.2.2.2.2.1
  have hAd := hC.2.2.2.2.2.2.1
  subst hx
  have es : SLT (k + 1) = SLT k + n := by
    rw [SLT_s hO]
    have : slen r = n := by unfold slen; rw [hs]
    rw [this]
  have hm := SLT_mono hk
  have ea : ad r i = B + k := hAd k _ hO
  refine va_newaK hC.1 hC.2.1 (hts _ hw) rfl hd rfl (nI_pos (by omega)) (nI_clamp (by omega)) hb (by have := (hr3 (k + 1) hK).1; omega) (by have := (hr3 (k + 1) hK).2; omega) (h := B + k) hz fun H1 cA e1 z1 o1 hAr hNm => ?_
  have hk9 : ∀ (j : Nat) (x : Nat × va_E), (wsK ad dA k V)[j]? = some x → H1[x.1]? = H[x.1]? := fun j x hx => o1 x.1 (by rw [← hz]; exact (hP j x hx).lt)
  have eC : cEN ad dA (fun _ => 0) r i = .inl (dA r i, n, .inl (fun _ => 0)) := by unfold cEN; rw [hs]
  have ecA : cA = dA r i := by
    obtain ⟨t, ht⟩ := ty_at (dA := dA) (List.mem_of_getElem? hO) hs
    have h2 := (hC.2.2.2.2.2.1.2 t _ ht).2
    have h3 : s.vm.findClass ("[" ++ (newarray.typeOf atype).toString) = some (dA r i) := by
      cases atype <;> exact h2
    exact Option.some.inj (hNm.symm.trans h3)
  have hP1 : va_P D vwCl (wsK ad dA (k + 1) (ma V r i (fun _ => 0))) H1 := by
    rw [wk_push V hO]
    refine (hP.kept hk9).app (fun j x hx => ?_)
    have hj : j < 1 := (List.getElem?_eq_some_iff.mp hx).1
    rw [show j = 0 by omega] at hx
    cases hx
    rw [eC, ea]
    show H1[B + k]? = some (vp_cell (dA r i) (n, .inl (fun _ => 0)))
    rw [e1, hdf, ecA]
    rfl
  have hS1 : va_S (fun q => B ≤ q) s.heap H1 locs := ⟨Nat.le_trans hS.1 (by omega), fun x q1 q2 => (o1 x (by rw [← hz]; exact Nat.lt_of_lt_of_le q1 hS.1)).trans (hS.2.1 x q1 q2), hS.2.2⟩
  have := kk p l e R s m args below meth c ad D dA B k0 Qf hf hC H1 locs ls hP1 hS1 (by omega) (by omega) hl
  rw [show k + 1 - k0 = k - k0 + 1 by omega, show SLT (k + 1) - SLT k0 = SLT k - SLT k0 + n by omega] at this
  have e2 : (aR r i :: st).map (cv ad) = .ref (B + k) :: st.map (cv ad) := by rw [List.map_cons]; show Value.ref (ad r i) :: _ = _; rw [ea]
  rw [e2] at this
  exact this
/-- a new row of references -/
theorem ho_newq {d K r i n idx : Nat} {x : Int32} {C : String} {q : Nat × (Nat → Nat → Nat)} (hR : HRI Φ d K) (hK : k + 1 ≤ K) (hO : Ord[k]? = some (r, i)) (hs : sh r = .inr (n, .object C, some q)) (hw : Cond.classLink own idx C ∈ WSU) (hAO : ∀ s, NW s → va_AO C s) (hx : x = nI n) (hn : n ≤ 2000) (hd : decode cc pc = .ok (.anewarray idx, 3)) (kk : Hq Φ cc nL own (pc + 3) al (aR r i :: st) (k + 1) (ma V r i (fun _ => 0))) : Hq Φ cc nL own pc al (aI x :: st) k V := by
  intro p l e R s m args below meth c ad D dA B k0 Qf hf hC H locs ls hP hS hz hk hl
  obtain ⟨hr1, hr2, hr3⟩ := hR p l e R s m args below meth c ad D dA B k0 Qf hf
  have hts := hC.2.2.2.2.1
  have hAd := hC.2.2.2.2.2.2.1
  subst hx
  have es : SLT (k + 1) = SLT k + n := by
    rw [SLT_s hO]
    have : slen r = n := by unfold slen; rw [hs]
    rw [this]
  have hm := SLT_mono hk
  have ea : ad r i = B + k := hAd k _ hO
  have ecl : (nI n).toNatClampNeg = n := nI_clamp (by omega)
  refine W.anew hC.1 hC.2.1 hC.2.2.2.1 (hts _ hw) (va_AO.use (hAO s hC.2.2.2.2.2.2.2.1)) rfl hd rfl (nI_pos (by omega)) (by rw [ecl]; omega) (by have := (hr3 (k + 1) hK).1; omega) (by rw [ecl]; have := (hr3 (k + 1) hK).2; omega) fun cA kA comp f1 f2 f3 f4 => ?_
  rw [ecl]
  generalize hH1 : H.push ({ cls := cA, slots := Array.replicate n .null, vm := .none } : Cell) = H1
  have z1 : H1.size = H.size + 1 := by rw [← hH1, Array.size_push]
  have e1 : H1[H.size]? = some (arrV cA n (fun _ => .null)) := by rw [← hH1, Array.getElem?_push_size, ← arrV_new]
  have o1 : ∀ q : Nat, q < H.size → H1[q]? = H[q]? := fun q hq => by rw [← hH1, Array.getElem?_push, if_neg (Nat.ne_of_lt hq)]
  have hk9 : ∀ (j : Nat) (x : Nat × va_E), (wsK ad dA k V)[j]? = some x → H1[x.1]? = H[x.1]? := fun j x hx => o1 x.1 (hP j x hx).lt
  have eC : cEN ad dA (fun _ => 0) r i = .inl (dA r i, n, .inr (.inr (.inr (.inr (rfN ad (fun _ => 0) i q))))) := by unfold cEN; rw [hs]
  have ecA : cA = dA r i := by
    obtain ⟨t, ht⟩ := ty_at (dA := dA) (List.mem_of_getElem? hO) hs
    obtain ⟨kA', comp', u1, u2, u3, u4⟩ := (hC.2.2.2.2.2.1.2 t _ ht).2
    exact Option.some.inj (f1.symm.trans u4)
  have hP1 : va_P D vwCl (wsK ad dA (k + 1) (ma V r i (fun _ => 0))) H1 := by
    rw [wk_push V hO]
    refine (hP.kept hk9).app (fun j x hx => ?_)
    have hj : j < 1 := (List.getElem?_eq_some_iff.mp hx).1
    rw [show j = 0 by omega] at hx
    cases hx
    rw [eC, ea, ← hz]
    show H1[H.size]? = some (vp_cell (dA r i) (n, _))
    rw [e1, ecA, vp_cell_q]
    rfl
  have hS1 : va_S (fun q => B ≤ q) s.heap H1 locs := ⟨Nat.le_trans hS.1 (by omega), fun x q1 q2 => (o1 x (Nat.lt_of_lt_of_le q1 hS.1)).trans (hS.2.1 x q1 q2), hS.2.2⟩
  have := kk p l e R s m args below meth c ad D dA B k0 Qf hf hC H1 locs ls hP1 hS1 (by omega) (by omega) hl
  rw [show k + 1 - k0 = k - k0 + 1 by omega, show SLT (k + 1) - SLT k0 = SLT k - SLT k0 + n by omega] at this
  have e2 : (aR r i :: st).map (cv ad) = .ref H.size :: st.map (cv ad) := by rw [List.map_cons]; show Value.ref (ad r i) :: _ = _; rw [ea, hz]
  rw [e2] at this
  exact this
theorem ho_getr {idx r i kf r1 j : Nat} {g : Nat → Nat} (h : FG own idx r kf (some (r1, g))) (hd : decode cc pc = .ok (.getfield idx, 3)) (hO : Ord[j]? = some (r, i)) (hj : j < k) (hv : ¬ V r i kf = 0) (kk : Hq Φ cc nL own (pc + 3) al (aR r1 (g i) :: st) k V) : Hq Φ cc nL own pc al (aR r i :: st) k V := by
  obtain ⟨ci, N, C, T, ks, h1, h2, h3, h4, h5, h6⟩ := h
  intro p l e R s m args below meth c ad D dA B k0 Qf hf hC H locs ls hP hS hz hk hl
  have hq2 := wk_at (ad := ad) (dA := dA) (k := k) V hO hj
  have e1 : cEN ad dA (V r i) r i = .inr (ci, fvsN ad (V r i) i ks) := by unfold cEN; rw [h1]
  rw [e1] at hq2
  refine va_get hC.1 hC.2.1 hC.2.2.2.2.1 h5 hC.2.2.2.1 hC.2.2.2.2.2.1 hP j hq2 h2 kf h3 (hC.2.2.2.2.1 _ h6) (fun _ z => z) (v := .ref (ad r1 (g i))) ?_ hd (kk p l e R s m args below meth c ad D dA B k0 Qf hf hC H locs ls hP hS hz hk hl)
  rw [fvsN_get h4]
  show some (if V r i kf = 0 then Value.null else Value.ref (ad r1 (g i))) = _
  rw [if_neg hv]
theorem vs_rf {A : Nat → Prop} {H : Heap} {locs : List Loc} {H0 : Heap} (h : va_S A H0 H locs) : va_S A H H locs := ⟨Nat.le_refl _, fun _ _ _ => rfl, h.2.2⟩
theorem vs_tr {A : Nat → Prop} {H0 H H1 : Heap} {locs locs1 : List Loc} (h : va_S A H0 H locs) (h1 : va_S A H H1 locs1) : va_S A H0 H1 locs1 :=
  ⟨Nat.le_trans h.1 h1.1, fun q q1 q2 => (h1.2.1 q (Nat.lt_of_lt_of_le q1 h.1) q2).trans (h.2.1 q q1 q2), h1.2.2⟩
theorem W_sized {p : Program} {l : Launch} {e : Env} {R : Room} {s : State} {m : MethodId} {args : Array Value} {below : List Frame} {meth : Method} {c : Code} {H : Heap} {locs : List Loc} {cells slots : Nat} {Q : State → Prop} {g : JFrame} (h : H.size ≤ s.heap.size + cells → W p l e R s m args below meth c H locs cells slots Q g) : W p l e R s m args below meth c H locs cells slots Q g :=
  fun T hT X => h (by rw [← hT]; exact X.heapSize) T hT X
theorem ho_put {idx r i kf j : Nat} {ty : FieldType} {x : Int32} (h : FP own idx r kf ty) (hd : decode cc pc = .ok (.putfield idx, 3)) (hO : Ord[j]? = some (r, i)) (hj : j < k) (hn : narrow ty (.int x) = .int x) (hfit : fits ty (.int x) = true) (kk : Hq Φ cc nL own (pc + 3) al st k (mu V r i kf x)) : Hq Φ cc nL own pc al (aI x :: aR r i :: st) k V := by
  obtain ⟨ci, N, C, T, ks, ty0, h1, h2, h3, h4, h5, h6, h7, h8, h9, h10⟩ := h
  intro p l e R s m args below meth c ad D dA B k0 Qf hf hC H locs ls hP hS hz hk hl
  have hq2 := wk_at (ad := ad) (dA := dA) (k := k) V hO hj
  have e1 : ∀ f, cEN ad dA f r i = .inr (ci, fvsN ad f i ks) := by intro f; unfold cEN; rw [h1]
  rw [e1] at hq2
  refine va_put hC.1 hC.2.1 hC.2.2.2.2.1 h5 ty0 h7 h8 hC.2.2.2.1 hC.2.2.2.2.2.1 hP (wk_D V hC.2.2.2.2.2.2.1) (vs_rf hS) j hq2 h2 kf h3 (hC.2.2.2.2.1 _ h6) (fun _ z => z) h9 h10 hn hfit (by rw [fvsN_len]; exact (List.getElem?_eq_some_iff.mp h4).1) hd (fun H1 locs1 hP1 hD1 hS1 => W_sized (fun hsz => ?_))
  have hz1 : H1.size = B + k := by have := hC.2.2.2.2.2.2.2.2; have := hS1.1; omega
  rw [wk_set hO hj (f := upd (V r i) kf x) (by rw [e1, fvsN_set h4 (v := .int x) (by show Value.int (upd (V r i) kf x kf) = _; rw [up_s])]; rfl)] at hP1
  exact kk p l e R s m args below meth c ad D dA B k0 Qf hf hC H1 locs1 ls hP1 (vs_tr hS hS1) hz1 hk hl
theorem ho_puti {idx r i kf j : Nat} {x : Int32} (h : FP own idx r kf .int) (hd : decode cc pc = .ok (.putfield idx, 3)) (hO : Ord[j]? = some (r, i)) (hj : j < k) (kk : Hq Φ cc nL own (pc + 3) al st k (mu V r i kf x)) : Hq Φ cc nL own pc al (aI x :: aR r i :: st) k V := ho_put h hd hO hj rfl rfl kk
theorem ho_putr {idx r i kf j r1 i1 : Nat} {g : Nat → Nat} (hN : HNI Φ) (h : FF own idx r kf r1 g) (hd : decode cc pc = .ok (.putfield idx, 3)) (hO : Ord[j]? = some (r, i)) (hj : j < k) (hg : g i = i1) (kk : Hq Φ cc nL own (pc + 3) al st k (mu V r i kf 1)) : Hq Φ cc nL own pc al (aR r1 i1 :: aR r i :: st) k V := by
  obtain ⟨ci, N, C, T, ks, ty0, ty, h1, h2, h3, h4, h5, h6, h7, h8, h9, h10, h11, h12⟩ := h
  subst hg
  intro p l e R s m args below meth c ad D dA B k0 Qf hf hC H locs ls hP hS hz hk hl
  have hq2 := wk_at (ad := ad) (dA := dA) (k := k) V hO hj
  have e1 : ∀ f, cEN ad dA f r i = .inr (ci, fvsN ad f i ks) := by intro f; unfold cEN; rw [h1]
  rw [e1] at hq2
  refine va_putF hC.1 hC.2.1 hC.2.2.2.2.1 h5 ty0 h7 h8 hC.2.2.2.1 hC.2.2.2.2.2.1 hP (wk_D V hC.2.2.2.2.2.2.1) (vs_rf hS) j hq2 h2 kf h3 (hC.2.2.2.2.1 _ h6) (fun _ z => z) h9 (hN p l e R s m args below meth c ad D dA B k0 Qf hf) h10 h11 (h12 (ad r1 (g i))).1 (h12 (ad r1 (g i))).2 (by rw [fvsN_len]; exact (List.getElem?_eq_some_iff.mp h4).1) hd (fun H1 locs1 hP1 hD1 hS1 => W_sized (fun hsz => ?_))
  have hz1 : H1.size = B + k := by have := hC.2.2.2.2.2.2.2.2; have := hS1.1; omega
  rw [wk_set hO hj (f := upd (V r i) kf 1) (by
    rw [e1, fvsN_set h4 (v := .ref (ad r1 (g i))) (by
      show (if upd (V r i) kf 1 kf = 0 then Value.null else Value.ref (ad r1 (g i))) = _
      rw [up_s, if_neg (by decide)])]
    rfl)] at hP1
  exact kk p l e R s m args below meth c ad D dA B k0 Qf hf hC H1 locs1 ls hP1 (vs_tr hS hS1) hz1 hk hl
theorem ho_iast {r i n j j0 : Nat} {x v : Int32} (hs : sh r = .inr (n, .int, none)) (hn : n < 2 ^ 31) (hd : decode cc pc = .ok (.iastore, 1)) (hO : Ord[j0]? = some (r, i)) (hj0 : j0 < k) (hx : x = nI j) (hj : j < n) (kk : Hq Φ cc nL own (pc + 1) al st k (mu V r i j v)) : Hq Φ cc nL own pc al (aI v :: aI x :: aR r i :: st) k V := by
  intro p l e R s m args below meth c ad D dA B k0 Qf hf hC H locs ls hP hS hz hk hl
  have hq2 := wk_at (ad := ad) (dA := dA) (k := k) V hO hj0
  obtain ⟨t, ht⟩ := ty_at (dA := dA) (List.mem_of_getElem? hO) hs
  have e1 : ∀ f, cEN ad dA f r i = .inl (dA r i, n, .inl f) := by intro f; unfold cEN; rw [hs]
  rw [e1] at hq2
  subst hx
  refine va_iast hC.1 hC.2.1 hC.2.2.2.2.2.1 hP (wk_D V hC.2.2.2.2.2.2.1) (vs_rf hS) j0 t hq2 ht (vp_in_nI hj hn) hd (fun H1 locs1 hP1 _ hS1 => W_sized (fun hsz => ?_))
  have hz1 : H1.size = B + k := by have := hC.2.2.2.2.2.2.2.2; have := hS1.1; omega
  rw [nI_clamp (by omega)] at hP1
  rw [wk_set hO hj0 (f := upd (V r i) j v) (by rw [e1])] at hP1
  exact kk p l e R s m args below meth c ad D dA B k0 Qf hf hC H1 locs1 ls hP1 (vs_tr hS hS1) hz1 hk hl
theorem ho_cast {r i n j j0 u : Nat} {x v : Int32} (hs : sh r = .inr (n, .char, none)) (hn : n < 2 ^ 31) (hd : decode cc pc = .ok (.castore, 1)) (hO : Ord[j0]? = some (r, i)) (hj0 : j0 < k) (hx : x = nI j) (hj : j < n) (hv : v = nI u) (hu : u < 65536) (kk : Hq Φ cc nL own (pc + 1) al st k (mu V r i j v)) : Hq Φ cc nL own pc al (aI v :: aI x :: aR r i :: st) k V := by
  intro p l e R s m args below meth c ad D dA B k0 Qf hf hC H locs ls hP hS hz hk hl
  have hq2 := wk_at (ad := ad) (dA := dA) (k := k) V hO hj0
  obtain ⟨t, ht⟩ := ty_at (dA := dA) (List.mem_of_getElem? hO) hs
  have e1 : ∀ f, cEN ad dA f r i = .inl (dA r i, n, .inl f) := by intro f; unfold cEN; rw [hs]
  rw [e1] at hq2
  subst hx
  refine va_cast hC.1 hC.2.1 hC.2.2.2.2.2.1 hP (wk_D V hC.2.2.2.2.2.2.1) (vs_rf hS) j0 t hq2 ht (vp_in_nI hj hn) hd (fun H1 locs1 hP1 _ hS1 => W_sized (fun hsz => ?_))
  have hz1 : H1.size = B + k := by have := hC.2.2.2.2.2.2.2.2; have := hS1.1; omega
  rw [nI_clamp (by omega)] at hP1
  have ev : (v.toUInt32 % 65536).toInt32 = v := by
    rw [hv, pk_char, pk_tn (by omega), Nat.mod_eq_of_lt hu]
  have ev2 : vp_nar .char v = v := by
    have := pk_vc v
    rw [ev] at this
    exact this
  rw [ev2] at hP1
  rw [wk_set hO hj0 (f := upd (V r i) j v) (by rw [e1])] at hP1
  exact kk p l e R s m args below meth c ad D dA B k0 Qf hf hC H1 locs1 ls hP1 (vs_tr hS hS1) hz1 hk hl
theorem ho_aast {r i n j j0 r1 i1 j1 : Nat} {x : Int32} {C : String} {g : Nat → Nat → Nat} {ci N : Nat} {T : u_T} {ks : List (Option (Nat × (Nat → Nat)))} (hs : sh r = .inr (n, .object C, some (r1, g))) (hn : n < 2 ^ 31) (hs1 : sh r1 = .inl (ci, ks)) (hc : vwCl[ci]? = some (C, T, N)) (hd : decode cc pc = .ok (.aastore, 1)) (hO : Ord[j0]? = some (r, i)) (hj0 : j0 < k) (hO1 : Ord[j1]? = some (r1, i1)) (hj1 : j1 < k) (hx : x = nI j) (hj : j < n) (hg : g i j = i1) (kk : Hq Φ cc nL own (pc + 1) al st k (mu V r i j 1)) : Hq Φ cc nL own pc al (aR r1 i1 :: aI x :: aR r i :: st) k V := by
  intro p l e R s m args below meth c ad D dA B k0 Qf hf hC H locs ls hP hS hz hk hl
  subst hg
  have hq2 := wk_at (ad := ad) (dA := dA) (k := k) V hO hj0
  have hq3 := wk_at (ad := ad) (dA := dA) (k := k) V hO1 hj1
  obtain ⟨t, ht⟩ := ty_at (dA := dA) (List.mem_of_getElem? hO) hs
  have e1 : ∀ f, cEN ad dA f r i = .inl (dA r i, n, .inr (.inr (.inr (.inr (rfN ad f i (r1, g)))))) := by intro f; unfold cEN; rw [hs]
  have e3 : cEN ad dA (V r1 (g i j)) r1 (g i j) = .inr (ci, fvsN ad (V r1 (g i j)) (g i j) ks) := by unfold cEN; rw [hs1]
  rw [e1] at hq2
  rw [e3] at hq3
  subst hx
  refine va_astq (r := (C, T, N)) hC.1 hC.2.1 hC.2.2.2.2.2.1 hP (wk_D V hC.2.2.2.2.2.2.1) (vs_rf hS) j0 t j1 ci hq2 ht hq3 hc (vp_in_nI hj hn) hd (fun H1 locs1 hP1 _ hS1 => W_sized (fun hsz => ?_))
  have hz1 : H1.size = B + k := by have := hC.2.2.2.2.2.2.2.2; have := hS1.1; omega
  rw [nI_clamp (by omega)] at hP1
  rw [wk_set hO hj0 (f := upd (V r i) j 1) (by
    rw [e1]
    have : rfN ad (upd (V r i) j 1) i (r1, g) = va_up (rfN ad (V r i) i (r1, g)) j (some (ad r1 (g i j))) := by
      funext q
      unfold rfN va_up
      by_cases hq : q = j
      · subst hq
        rw [up_s, if_neg (by decide), if_pos rfl]
      · rw [up_n hq, if_neg hq]
    rw [this])] at hP1
  exact kk p l e R s m args below meth c ad D dA B k0 Qf hf hC H1 locs1 ls hP1 (vs_tr hS hS1) hz1 hk hl
/-- behind a maker's call -/
theorem run_goN {p : Program} {l : Launch} {e : Env} {R : Room} {s : State} {m : MethodId} {args : Array Value} {below : List Frame} {meth : Method} {c : Code} {H : Heap} {locs : List Loc} {cells slots mc ms : Nat} {Q : State → Prop} {ls : Array Slot} {rest st0 : List Value} {a : Array Value}
    {ad : Nat → Nat → Nat} {D : va_G} {dA : Nat → Nat → ClassId} {B k1 : Nat} {P : Mem → Prop}
    (hr : va_Run p l e R s m args below meth c H locs cells slots mc ms (F0 m pc ls st0) rest (QRN ad D dA B k1 P a) (fun q => B ≤ q)) (hS : va_S (fun q => B ≤ q) s.heap H locs)
    (kk : ∀ (V' : Mem) (H1 : Heap) (locs1 : List Loc), P V' → va_P D vwCl (wsK ad dA k1 V') H1 → H1.size = B + k1 → va_S (fun q => B ≤ q) s.heap H1 locs1 → W p l e R s m args below meth c H1 locs1 (cells + mc) (slots + ms) Q (F0 m (pc + 3) ls rest)) :
    W p l e R s m args below meth c H locs cells slots Q (F0 m pc ls st0) := by
  intro T hT X
  obtain ⟨v, st₀, t, T', L, h0, X', hL, e1, e2, ⟨⟨V', hv, hp, hb⟩, hz, hk⟩, stp⟩ := hr T hT X
  cases hv
  rw [h0] at hz hk
  obtain ⟨t2, a1, b1⟩ := kk V' T'.heap (locs ++ L) hp (by rw [e1]; exact hb.1) (by rw [e1]; exact hb.2.2.2.2)
    ⟨Nat.le_trans hS.1 (by rw [e1]; exact hz), fun q h1 h2 => by rw [e1, hk q (Nat.lt_of_lt_of_le h1 hS.1) h2]; exact hS.2.1 q h1 h2, fun q hq => by
      rcases List.mem_append.mp hq with h | h
      · exact hS.2.2 q h
      · exact hL q h⟩ T' rfl X'
  exact ⟨t2, stp t2 a1, b1⟩
theorem pbn_calling {ad : Nat → Nat → Nat} {D : va_G} {dA : Nat → Nat → ClassId} {B k : Nat} {V : Mem} {as : List Value} : FrameBlind (va_Pc as (PBN ad D dA B k V)) := by
  intro a T g mk h
  obtain ⟨h1, h2, h3, h4, h5, h6⟩ := h
  exact ⟨h1, h2, va_K.moved (u := T) (U := T.calling g mk a) (Vm.Alike.refl T.vm) h3, h4, NW.same (s := T) rfl h5, h6⟩
/-- what the tables say of a maker -/
def MN (M : MI) (n : Nat) : Prop := Cond.code M.1 M.2.1 M.2.2.1 M.2.2.2 ∈ WSU ∧ Cond.initialized M.1.cls ∈ WSU ∧ (M.1.cls ≠ "java/lang/invoke/MethodHandle" ∧ M.1.cls ≠ "java/lang/invoke/VarHandle" ∧ (parseMethodDescriptor M.1.desc).map (fun d => d.parameters.length) = some n) ∧ M.2.2.1 ≤ 40 ∧ Cond.instanceMethod M.1 ∈ WSU ∧ M.1.name = "<init>" ∧ M.2.2.2 = none
theorem ho_initN {d K k1 idx n r i : Nat} {M : MI} {As : List AV} {stk : List AV} {P : Mem → Prop} (hM : MN M n) (hR : HRI Φ d K) (hK : k1 ≤ K) (hkk : k ≤ k1) (hl0 : ∀ s, NW s → va_Nw (.methodLinkNest own idx M.1 RX6) s) (hd : decode cc pc = .ok (.invokespecial idx, 3)) (hlen : As.length = n) (hstk : stk = As.reverse ++ aR r i :: st) (hW : (st.map fun v => if isW v then 2 else 1).sum ≤ 8) (h : Ci d M (aR r i :: As) k V k1 P)
    (kk : ∀ V', P V' → Hq Φ cc nL own (pc + 3) al st k1 V') : Hq Φ cc nL own pc al stk k V := by
  intro p l e R s m args below meth c ad D dA B k0 Qf hf hC H locs ls hP hS hz hk hl
  obtain ⟨hr1, hr2, hr3⟩ := hR p l e R s m args below meth c ad D dA B k0 Qf hf
  obtain ⟨m1, m2, m3, m4, m5, m6, m7⟩ := hM
  have hts := hC.2.2.2.2.1
  have hF : ∀ T : State, T.heap = H → s.WarmedH T.vm → PBN ad D dA B k V T := fun T hT hWm =>
    ⟨by rw [hT]; exact hP, va_K.moved hWm.alike hC.2.2.2.2.2.1, hC.2.2.2.2.2.2.1, hC.2.2.2.2.2.2.2.1.warm hWm, by rw [hT]; exact hz⟩
  subst hstk
  have hst : (As.reverse ++ aR r i :: st).map (cv ad) = (As.map (cv ad)).reverse ++ .ref (ad r i) :: st.map (cv ad) := by
    rw [List.map_append, List.map_reverse]; rfl
  rw [hst]
  have hm := SLT_mono hkk
  have hm0 := SLT_mono hk
  obtain ⟨q1, q2⟩ := hr3 k1 hK
  refine run_goN (P := P) (va_runIN (As := As.map (cv ad)) (rest := st.map (cv ad)) (b := ad r i) (n := n) ⟨hC.1, hC.2.1, hC.2.2.1, hC.2.2.2.1, hts⟩ (h l ad D dA B)
    ⟨va_cnB n hts (wsM_good m1) (by rw [wsM, m7]) rfl rfl (hl0 s hC.2.2.2.2.2.2.2.1) (hts _ m2) m3 ⟨hr1, by show 8 + (M.2.2.1 + 11) + 64 * d ≤ R.locals; omega⟩, m6, hts _ m5⟩
    ⟨pbn_calling, fun T hT hWm => ⟨rfl, hF T hT hWm⟩⟩ rfl (by rw [List.length_map]; exact hlen) hl.1 rfl (lv_room (by rw [cat_sum]; exact hW)) hd ⟨by omega, by omega⟩) hS (fun V' H1 locs1 hp hP1 hz1 hS1 => ?_)
  have := kk V' hp p l e R s m args below meth c ad D dA B k0 Qf hf hC H1 locs1 ls hP1 hS1 hz1 (by omega) hl
  rw [show k1 - k0 = k - k0 + (k1 - k) by omega, show SLT k1 - SLT k0 = SLT k - SLT k0 + (SLT k1 - SLT k) by omega] at this
  exact this
theorem ho_init {d K k1 idx n r i : Nat} {M : MI} {As : List AV} {stk : List AV} {P : Mem → Prop} (hM : MN M n) (hR : HRI Φ d K) (hK : k1 ≤ K) (hkk : k ≤ k1) (hl0 : Cond.methodLink own idx M.1 ∈ WSU) (hd : decode cc pc = .ok (.invokespecial idx, 3)) (hlen : As.length = n) (hstk : stk = As.reverse ++ aR r i :: st) (hW : (st.map fun v => if isW v then 2 else 1).sum ≤ 8) (h : Ci d M (aR r i :: As) k V k1 P)
    (kk : ∀ V', P V' → Hq Φ cc nL own (pc + 3) al st k1 V') : Hq Φ cc nL own pc al stk k V := by
  intro p l e R s m args below meth c ad D dA B k0 Qf hf hC H locs ls hP hS hz hk hl
  obtain ⟨hr1, hr2, hr3⟩ := hR p l e R s m args below meth c ad D dA B k0 Qf hf
  obtain ⟨m1, m2, m3, m4, m5, m6, m7⟩ := hM
  have hts := hC.2.2.2.2.1
  have hF : ∀ T : State, T.heap = H → s.WarmedH T.vm → PBN ad D dA B k V T := fun T hT hWm =>
    ⟨by rw [hT]; exact hP, va_K.moved hWm.alike hC.2.2.2.2.2.1, hC.2.2.2.2.2.2.1, hC.2.2.2.2.2.2.2.1.warm hWm, by rw [hT]; exact hz⟩
  subst hstk
  have hst : (As.reverse ++ aR r i :: st).map (cv ad) = (As.map (cv ad)).reverse ++ .ref (ad r i) :: st.map (cv ad) := by
    rw [List.map_append, List.map_reverse]; rfl
  rw [hst]
  have hm := SLT_mono hkk
  have hm0 := SLT_mono hk
  obtain ⟨q1, q2⟩ := hr3 k1 hK
  refine run_goN (P := P) (va_runI (As := As.map (cv ad)) (rest := st.map (cv ad)) (b := ad r i) (n := n) ⟨hC.1, hC.2.1, hC.2.2.1, hC.2.2.2.1, hts⟩ (h l ad D dA B)
    ⟨callB_of n hts (wsM_good m1) (by rw [wsM, m7]) rfl rfl (hts _ m2) (hts _ hl0) m3 ⟨hr1, by show 8 + (M.2.2.1 + 11) + 64 * d ≤ R.locals; omega⟩, m6, hts _ m5⟩
    ⟨pbn_calling, fun T hT hWm => ⟨rfl, hF T hT hWm⟩⟩ rfl (by rw [List.length_map]; exact hlen) hl.1 rfl (lv_room (by rw [cat_sum]; exact hW)) hd ⟨by omega, by omega⟩) hS (fun V' H1 locs1 hp hP1 hz1 hS1 => ?_)
  have := kk V' hp p l e R s m args below meth c ad D dA B k0 Qf hf hC H1 locs1 ls hP1 hS1 hz1 (by omega) hl
  rw [show k1 - k0 = k - k0 + (k1 - k) by omega, show SLT k1 - SLT k0 = SLT k - SLT k0 + (SLT k1 - SLT k) by omega] at this
  exact this
theorem ho_vret {d k0 k1 : Nat} {P : Mem → Prop} (hd : decode cc pc = .ok (.return_, 1)) (h : P V) : Hq (KI d k0 k1 P) cc nL own pc al [] k1 V := by
  intro p l e R s m args below meth c ad D dA B k0' Qf hf hC H locs ls hP hS hz hk hl
  obtain ⟨rfl, rfl, rfl, h4, h5, h6⟩ := hf
  exact W.vret hC.1 hC.2.1 h4 (fun t ht hW => ⟨⟨V, rfl, h, by rw [ht]; exact hP, va_K.moved hW.alike hC.2.2.2.2.2.1, hC.2.2.2.2.2.2.1, hC.2.2.2.2.2.2.2.1.warm hW, by rw [ht]; exact hz⟩, hS.F ht⟩) hS.2.2 hd h5
end HROWS
