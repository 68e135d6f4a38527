/-! ===== values, memory, shapes: what a state of the system is ===== -/
abbrev vwCl : List vw_C := [(RX0, TX0, 5), (RX1, TX1, 9), (RX2, TX2, 6), (RX3, TX3, 3), (RX4, TX4, 4), (RX5, TX5, 16), (RX6, TX6, 13), (RX7, TX7, 33)]
abbrev AV : Type := Int32 ⊕ ((Nat × Nat) ⊕ (Int64 ⊕ Unit))
abbrev Mem : Type := Nat → Nat → Nat → Int32
abbrev aI (x : Int32) : AV := .inl x
abbrev aR (r i : Nat) : AV := .inr (.inl (r, i))
abbrev aL (x : Int64) : AV := .inr (.inr (.inl x))
abbrev aN : AV := .inr (.inr (.inr ()))
def cv (ad : Nat → Nat → Nat) : AV → Value
  | .inl x => .int x
  | .inr (.inl q) => .ref (ad q.1 q.2)
  | .inr (.inr (.inl x)) => .long x
  | .inr (.inr (.inr _)) => .null
def isW : AV → Bool
  | .inr (.inr (.inl _)) => true
  | _ => false
theorem cv_cat (ad : Nat → Nat → Nat) (v : AV) : ((cv ad v).category == 2) = isW v := by
  rcases v with x | ⟨q⟩ | x | x <;> rfl
def ma (V : Mem) (r i : Nat) (f : Nat → Int32) : Mem := fun r' i' => if r' = r ∧ i' = i then f else V r' i'
def mu (V : Mem) (r i k : Nat) (x : Int32) : Mem := ma V r i (upd (V r i) k x)
theorem ma_same (V : Mem) (r i : Nat) (f : Nat → Int32) : ma V r i f r i = f := if_pos ⟨rfl, rfl⟩
theorem ma_ne {V : Mem} {r i r' i' : Nat} {f : Nat → Int32} (h : ¬ (r' = r ∧ i' = i)) : ma V r i f r' i' = V r' i' := if_neg h
abbrev Shp : Type := (Nat × List (Option (Nat × (Nat → Nat)))) ⊕ (Nat × FieldType × Option (Nat × (Nat → Nat → Nat)))
def sh : Nat → Shp := fun r => match r with
  | 0 => .inl (6, [some (1, fun _ => 0), some (2, fun _ => 0), some (2, fun _ => 1), some (2, fun _ => 2), none, some (17, fun _ => 0), none, some (6, fun _ => 0), some (19, fun _ => 0), some (20, fun _ => 0), some (21, fun _ => 0), none, some (22, fun _ => 0)])
  | 1 => .inl (0, [some (7, fun _ => 0), some (8, fun _ => 0), some (9, fun _ => 0), some (10, fun _ => 0), some (12, fun _ => 0)])
  | 2 => .inl (5, [some (1, fun _ => 0), some (13, fun i => i), some (14, fun i => i), some (15, fun i => i), some (16, fun i => i), none, none, none, none, none, none, none, none, none, none, none])
  | 3 => .inl (2, [none, none, none, none, none, none])
  | 4 => .inl (3, [none, none, some (23, fun i => i)])
  | 5 => .inl (4, [none, none, some (3, fun i => 24 + i), some (4, fun i => 4 + i)])
  | 6 => .inl (1, [some (17, fun _ => 0), some (18, fun _ => 0), none, none, none, none, none, none, none])
  | 7 => .inr (14, .int, none)
  | 8 => .inr (14, .int, none)
  | 9 => .inr (14, .int, none)
  | 10 => .inr (14, (.array .int), some (11, fun _ j => j))
  | 11 => .inr (96, .int, none)
  | 12 => .inr (96, .int, none)
  | 13 => .inr (8, (.object "RoofSnow$Roof"), some (3, fun i j => 8 * i + j))
  | 14 => .inr (24, .int, none)
  | 15 => .inr (24, .int, none)
  | 16 => .inr (3, .int, none)
  | 17 => .inr (96, .int, none)
  | 18 => .inr (96, .int, none)
  | 19 => .inr (4, (.object "RoofSnow$Sheet"), some (4, fun _ j => j))
  | 20 => .inr (5, (.object "RoofSnow$Slot"), some (5, fun _ j => j))
  | 21 => .inr (60, .int, none)
  | 22 => .inr (8, .int, none)
  | 23 => .inr (24, .int, none)
  | 24 => .inl (7, [some (25, fun _ => 0), some (26, fun _ => 0), some (27, fun _ => 0), none, some (28, fun _ => 0), some (29, fun _ => 0), none, none, none, none, none, none, none, some (30, fun _ => 0), some (31, fun _ => 0), some (32, fun _ => 0), none, none, some (33, fun _ => 0), none, some (34, fun _ => 0), some (35, fun _ => 0), some (36, fun _ => 0), some (37, fun _ => 0), some (38, fun _ => 0), some (39, fun _ => 0), some (40, fun _ => 0), some (41, fun _ => 0), some (42, fun _ => 0), some (43, fun _ => 0), some (44, fun _ => 0), some (45, fun _ => 0), none])
  | 25 => .inr (1479, .int, none)
  | 26 => .inr (1479, .int, none)
  | 27 => .inr (1479, .int, none)
  | 28 => .inr (107, .int, none)
  | 29 => .inr (96, .int, none)
  | 30 => .inr (13, .char, none)
  | 31 => .inr (4, .int, none)
  | 32 => .inr (96, .int, none)
  | 33 => .inr (96, .int, none)
  | 34 => .inr (10, .boolean, none)
  | 35 => .inr (96, .int, none)
  | 36 => .inr (4, .int, none)
  | 37 => .inr (4, .int, none)
  | 38 => .inr (4, .int, none)
  | 39 => .inr (96, .int, none)
  | 40 => .inr (5, .int, none)
  | 41 => .inr (5, .int, none)
  | 42 => .inr (5, .int, none)
  | 43 => .inr (120, .int, none)
  | 44 => .inr (24, .int, none)
  | 45 => .inr (60, .int, none)
  | _ => .inr (0, .int, none)
def cnt : Nat → Nat := fun r => match r with
  | 2 => 3
  | 3 => 29
  | 4 => 9
  | 5 => 5
  | 11 => 14
  | 13 => 3
  | 14 => 3
  | 15 => 3
  | 16 => 3
  | 23 => 9
  | _ => 1
def fv1 (ad : Nat → Nat → Nat) (f : Nat → Int32) (i k : Nat) : Option (Nat × (Nat → Nat)) → Value
  | none => Value.int (f k)
  | some q => Value.ref (ad q.1 (q.2 i))
def fvs (ad : Nat → Nat → Nat) (f : Nat → Int32) (i : Nat) (ks : List (Option (Nat × (Nat → Nat)))) : List Value := ks.mapIdx (fun k o => fv1 ad f i k o)
def cE (ad : Nat → Nat → Nat) (dA : Nat → Nat → ClassId) (f : Nat → Int32) (r i : Nat) : va_E := match sh r with
  | .inl q => .inr (q.1, fvs ad f i q.2)
  | .inr (n, _, none) => .inl (dA r i, n, .inl f)
  | .inr (n, _, some q) => .inl (dA r i, n, .inr (.inr (.inr (.inr (fun j => some (ad q.1 (q.2 i j)))))))
abbrev Uv : Type := List (Nat × Nat)
def wsU (ad : Nat → Nat → Nat) (dA : Nat → Nat → ClassId) (U : Uv) (V : Mem) : va_W := U.map (fun q => (ad q.1 q.2, cE ad dA (V q.1 q.2) q.1 q.2))
def tyU (dA : Nat → Nat → ClassId) (U : Uv) : List (ClassId × FieldType) := U.filterMap (fun q => match sh q.1 with | .inl _ => none | .inr s => some (dA q.1 q.2, s.2.1))
def AU (ad : Nat → Nat → Nat) (U : Uv) : Nat → Prop := fun q => ∃ x ∈ U, q = ad x.1 x.2
def Inj (ad : Nat → Nat → Nat) (U : Uv) : Prop := ∀ (i j : Nat) (x y : Nat × Nat), U[i]? = some x → U[j]? = some y → ad x.1 x.2 = ad y.1 y.2 → i = j
theorem ws_at {ad : Nat → Nat → Nat} {dA : Nat → Nat → ClassId} {U : Uv} (V : Mem) {r i : Nat} (h : (r, i) ∈ U) : ∃ p : Nat, U[p]? = some (r, i) ∧ (wsU ad dA U V)[p]? = some (ad r i, cE ad dA (V r i) r i) := by
  obtain ⟨p, hp⟩ := List.getElem?_of_mem h
  exact ⟨p, hp, by rw [wsU, List.getElem?_map, hp]; rfl⟩
theorem ty_at {dA : Nat → Nat → ClassId} {U : Uv} {r i n : Nat} {ty : FieldType} {o : Option (Nat × (Nat → Nat → Nat))} (h : (r, i) ∈ U) (hs : sh r = .inr (n, ty, o)) : ∃ t : Nat, (tyU dA U)[t]? = some (dA r i, ty) := by
  apply List.getElem?_of_mem
  refine List.mem_filterMap.mpr ⟨(r, i), h, ?_⟩
  simp only [hs]
theorem ws_D {ad : Nat → Nat → Nat} {dA : Nat → Nat → ClassId} {U : Uv} (V : Mem) (h : Inj ad U) : va_D (AU ad U) (wsU ad dA U V) := by
  have key : ∀ (k : Nat) (q : Nat × va_E), (wsU ad dA U V)[k]? = some q → ∃ x, U[k]? = some x ∧ q.1 = ad x.1 x.2 := by
    intro k q hk
    rw [wsU, List.getElem?_map] at hk
    cases hu : U[k]? with
    | none => rw [hu] at hk; cases hk
    | some x => rw [hu] at hk; cases hk; exact ⟨x, rfl, rfl⟩
  refine ⟨fun i j p q hi hj hpq => ?_, fun k q hk => ?_⟩
  · obtain ⟨x, h1, h2⟩ := key i p hi
    obtain ⟨y, h3, h4⟩ := key j q hj
    exact h i j x y h1 h3 (by rw [← h2, ← h4]; exact hpq)
  · obtain ⟨x, h1, h2⟩ := key k q hk
    exact ⟨x, List.mem_of_getElem? h1, h2⟩
theorem ws_set {ad : Nat → Nat → Nat} {dA : Nat → Nat → ClassId} {U : Uv} {V : Mem} {p r i : Nat} {f : Nat → Int32} {e : va_E} (hI : Inj ad U) (hp : U[p]? = some (r, i)) (he : cE ad dA f r i = e) : (wsU ad dA U V).set p (ad r i, e) = wsU ad dA U (ma V r i f) := by
  apply List.ext_getElem?
  intro k
  by_cases hk : k = p
  · subst hk
    have hl : k < (wsU ad dA U V).length := by rw [wsU, List.length_map]; exact (List.getElem?_eq_some_iff.mp hp).1
    rw [List.getElem?_set_self hl, wsU, List.getElem?_map, hp]
    show some (ad r i, e) = some (ad r i, cE ad dA (ma V r i f r i) r i)
    rw [ma_same, he]
  · rw [List.getElem?_set_ne (Ne.symm hk), wsU, wsU, List.getElem?_map, List.getElem?_map]
    cases hu : U[k]? with
    | none => rfl
    | some x =>
      have hne : ¬ (x.1 = r ∧ x.2 = i) := fun h => hk (hI k p x (r, i) hu hp (by rw [h.1, h.2]))
      show some (ad x.1 x.2, cE ad dA (V x.1 x.2) x.1 x.2) = some (ad x.1 x.2, cE ad dA (ma V r i f x.1 x.2) x.1 x.2)
      rw [ma_ne hne]
theorem fvs_get {ad : Nat → Nat → Nat} {f : Nat → Int32} {i k : Nat} {ks : List (Option (Nat × (Nat → Nat)))} {o : Option (Nat × (Nat → Nat))} (h : ks[k]? = some o) : (fvs ad f i ks)[k]? = some (fv1 ad f i k o) := by
  rw [fvs, List.getElem?_mapIdx, h]; rfl
theorem fvs_len {ad : Nat → Nat → Nat} {f : Nat → Int32} {i : Nat} {ks : List (Option (Nat × (Nat → Nat)))} : (fvs ad f i ks).length = ks.length := by
  rw [fvs, List.length_mapIdx]
theorem fvs_set {ad : Nat → Nat → Nat} {f : Nat → Int32} {i k : Nat} {x : Int32} {ks : List (Option (Nat × (Nat → Nat)))} (h : ks[k]? = some none) : fvs ad (upd f k x) i ks = (fvs ad f i ks).set k (.int x) := by
  apply List.ext_getElem?
  intro j
  by_cases hj : j = k
  · subst hj
    have hl : j < (fvs ad f i ks).length := by rw [fvs_len]; exact (List.getElem?_eq_some_iff.mp h).1
    rw [List.getElem?_set_self hl, fvs_get h]
    simp [upd, fv1]
  · rw [List.getElem?_set_ne (Ne.symm hj), fvs, fvs, List.getElem?_mapIdx, List.getElem?_mapIdx]
    cases hk : ks[j]? with
    | none => rfl
    | some o =>
      cases o with
      | none => simp [upd, hj, fv1]
      | some q => rfl
/-! ===== what is there before the law begins: the table of kinds, the six words, two statics of the library ===== -/
def abF : Nat → Value := fun j => match j with | 0 => .int (-1) | 1 => .int 0 | 2 => .int 0 | 3 => .int 1 | 4 => .int 2 | _ => .int 0
def nStr : Nat := 6
def lenS : List Nat := [4, 5, 4, 3, 2, 2]
def bytS : List (List Int32) := [[109, 101, 108, 116], [111, 119, 110, 101, 114], [102, 105, 110, 101], [119, 115, 122], [104, 119], [119, 115]]
def Fz (ad : Nat → Nat → Nat) (A : Nat → Prop) (T : State) (H : Heap) : Prop :=
  va_Z "RoofSnow" "ABOVE" "[I" (.ref (ad 60 0)) A T H ∧ va_T .int (ad 60 0) 6 abF A T H ∧ vk_S nStr lenS bytS (ad 61) (ad 62) A T H ∧
  va_Z "java/lang/String" "COMPACT_STRINGS" "Z" (.int 1) A T H ∧
  (va_Z "jdk/internal/util/Preconditions" "SIOOBE_FORMATTER" "Ljava/util/function/BiFunction;" .null A T H ∨ va_Z "jdk/internal/util/Preconditions" "SIOOBE_FORMATTER" "Ljava/util/function/BiFunction;" (.ref (ad 63 0)) A T H) ∧
  vk_R RX1 100 "melt" (ad 61 0) T ∧ vk_R RX1 102 "owner" (ad 61 1) T ∧ vk_R RX1 104 "fine" (ad 61 2) T ∧ vk_R RX1 106 "wsz" (ad 61 3) T ∧ vk_R RX1 108 "hw" (ad 61 4) T ∧ vk_R RX1 110 "ws" (ad 61 5) T
theorem Fz.warm {ad : Nat → Nat → Nat} {A : Nat → Prop} {s T : State} {H : Heap} (hW : s.WarmedH T.vm) (h : Fz ad A s H) : Fz ad A T H := by
  obtain ⟨h1, h2, h3, h4, h5, r0, r1, r2, r3, r4, r5⟩ := h
  exact ⟨h1.moved hW.alike, h2.moved hW.alike, h3.moved hW.alike, h4.moved hW.alike, h5.elim (fun z => Or.inl (z.moved hW.alike)) (fun z => Or.inr (z.moved hW.alike)), r0.warm hW, r1.warm hW, r2.warm hW, r3.warm hW, r4.warm hW, r5.warm hW⟩
theorem Fz.same {ad : Nat → Nat → Nat} {A : Nat → Prop} {s T : State} {H : Heap} (hv : T.vm = s.vm) (h : Fz ad A s H) : Fz ad A T H := by
  have ha : s.vm.Alike T.vm := by rw [hv]; exact Vm.Alike.refl _
  obtain ⟨h1, h2, h3, h4, h5, r0, r1, r2, r3, r4, r5⟩ := h
  exact ⟨h1.moved ha, h2.moved ha, h3.moved ha, h4.moved ha, h5.elim (fun z => Or.inl (z.moved ha)) (fun z => Or.inr (z.moved ha)), r0.same hv, r1.same hv, r2.same hv, r3.same hv, r4.same hv, r5.same hv⟩
theorem Fz.kept {ad : Nat → Nat → Nat} {A : Nat → Prop} {s : State} {H H1 : Heap} (h : Fz ad A s H) (hq : ∀ a : Nat, a < H.size → ¬ A a → H1[a]? = H[a]?) : Fz ad A s H1 := by
  obtain ⟨h1, h2, h3, h4, h5, hr⟩ := h
  exact ⟨h1.kept hq, h2.kept hq, h3.kept hq, h4.kept hq, h5.elim (fun z => Or.inl (z.kept hq)) (fun z => Or.inr (z.kept hq)), hr⟩
theorem Fz.narrow {ad : Nat → Nat → Nat} {A B : Nat → Prop} {s : State} {H : Heap} (h : Fz ad A s H) (hAB : ∀ q, B q → A q) : Fz ad B s H := by
  obtain ⟨h1, h2, h3, h4, h5, hr⟩ := h
  exact ⟨h1.narrow hAB, h2.narrow hAB, h3.narrow hAB, h4.narrow hAB, h5.elim (fun z => Or.inl (z.narrow hAB)) (fun z => Or.inr (z.narrow hAB)), hr⟩
/-! ===== contracts over memories, and the walk of a body ===== -/
def WSU : List Cond := lw_tbl.filter goodWord
theorem wsu_of {w : Cond} (i : Nat) (h : lw_tbl[i]? = some w) (hg : goodWord w = true) : w ∈ WSU := List.mem_filter.mpr ⟨List.mem_of_getElem? h, hg⟩
theorem wsu_good {ws : List Cond} (h : ∀ w ∈ ws, w ∈ WSU) : GoodIn WSU ws := fun w hw => ⟨h w hw, good_of_word (List.mem_filter.mp (h w hw)).2⟩
abbrev MI : Type := MethodName × ByteArray × Nat × Option FieldType
def rmD (d : Nat) : Room := { frames := d, cells := 0, slots := 0, locals := 64 * d }
def PB (ad : Nat → Nat → Nat) (D : va_G) (dA : Nat → Nat → ClassId) (U : Uv) (V : Mem) (T : State) : Prop :=
  va_P D vwCl (wsU ad dA U V) T.heap ∧ va_K D vwCl (tyU dA U) T ∧ Inj ad U ∧ Fz ad (AU ad U) T T.heap
def QR (ad : Nat → Nat → Nat) (D : va_G) (dA : Nat → Nat → ClassId) (U : Uv) (P : Option AV → Mem → Prop) : Array Value → State → Outcome → State → Prop := fun _ st oc t =>
  (∃ (v : Option AV) (V' : Mem), oc = .returned (v.map (cv ad)) ∧ P v V' ∧ PB ad D dA U V' t) ∧ va_F (AU ad U) st t
def wsM (M : MI) : List Cond := Cond.code M.1 M.2.1 M.2.2.1 M.2.2.2 :: WSU
def Cl (U : Uv) (d : Nat) (M : MI) (as : List AV) (V : Mem) (P : Option AV → Mem → Prop) : Prop :=
  ∀ (l : Launch) (ad : Nat → Nat → Nat) (D : va_G) (dA : Nat → Nat → ClassId), Met l M.1 (wsM M) (rmD d) (va_Pc (as.map (cv ad)) (PB ad D dA U V)) (QR ad D dA U P) 0 0 (AU ad U)
def Ctx (p : Program) (s : State) (m : MethodId) (args : Array Value) (c : Code) (ad : Nat → Nat → Nat) (D : va_G) (dA : Nat → Nat → ClassId) (U : Uv) (A : Nat → Prop) (cc : ByteArray) (nL : Nat) (own : String) : Prop :=
  p.tables.exec = Jvm.exec ∧ c.code = cc ∧ c.maxLocals = nL ∧ s.vm.findClass own = some m.cls ∧ (∀ w ∈ WSU, w.before args s = true) ∧ va_K D vwCl (tyU dA U) s ∧ Inj ad U ∧ (∀ q, AU ad U q → A q) ∧ Fz ad A s s.heap
abbrev KT : Type := Program → Launch → Env → Room → State → MethodId → Array Value → List Frame → Method → Code → (Nat → Nat → Nat) → va_G → (Nat → Nat → ClassId) → (Nat → Prop) → Nat → Nat → (State → Prop) → Prop
abbrev cvl (ad : Nat → Nat → Nat) (al : List (Nat × AV)) : List (Nat × Value) := al.map (fun q => (q.1, cv ad q.2))
def Gq (Φ : KT) (U : Uv) (cc : ByteArray) (nL : Nat) (own : String) (pc : Nat) (al : List (Nat × AV)) (st : List AV) (V : Mem) : Prop :=
  ∀ (p : Program) (l : Launch) (e : Env) (R : Room) (s : State) (m : MethodId) (args : Array Value) (below : List Frame) (meth : Method) (c : Code) (ad : Nat → Nat → Nat) (D : va_G) (dA : Nat → Nat → ClassId) (A : Nat → Prop) (cells slots : Nat) (Qf : State → Prop),
    Φ p l e R s m args below meth c ad D dA A cells slots Qf → Ctx p s m args c ad D dA U A cc nL own →
    ∀ (H : Heap) (locs : List Loc) (ls : Array Slot), va_P D vwCl (wsU ad dA U V) H → va_S A s.heap H locs → lv_has ls nL (cvl ad al) →
      W p l e R s m args below meth c H locs cells slots Qf (F0 m pc ls (st.map (cv ad)))
/-- the context of a method's body -/
def Kp (d : Nat) (M : MI) (U : Uv) (P : Option AV → Mem → Prop) : KT := fun p l e R s m args below meth c ad D dA A cells slots Qf =>
  R = rmD d ∧ A = AU ad U ∧ cells = 0 ∧ slots = 0 ∧ Qf = MQ below (QR ad D dA U P) args s 0 0 (AU ad U) ∧ meth.sig.returnType = M.2.2.2 ∧ meth.locks = false
theorem cl_of {U : Uv} {d : Nat} {M : MI} {as : List AV} {V : Mem} {P : Option AV → Mem → Prop} (al : List (Nat × AV)) (hy : plainName M.1.cls = true) (hn : ∀ ad, (lg_sl (as.map (cv ad))).length ≤ M.2.2.1) (hal : ∀ ad, lv_args 0 (as.map (cv ad)) = cvl ad al)
    (h : Gq (Kp d M U P) U M.2.1 M.2.2.1 M.1.cls 0 al [] V) : Cl U d M as V P := by
  intro l ad D dA
  refine Met.ofW (cc := M.2.1) (maxL := M.2.2.1) (ret := M.2.2.2) hy rfl ?_
  intro p e s m args below meth c s₁ B hml hv
  obtain ⟨rfl, hP, hK, hI, hF⟩ := hv
  have hts := atoms_spec (ws := wsM M) B.pre
  have hown : s.vm.findClass M.1.cls = some m.cls := findClass_of_methodNamed B.named
  rw [lg_entry_eq]
  have hl := lv_entry (as.map (cv ad)) (hn ad)
  rw [hal ad] at hl
  exact h p l e (rmD d) s m _ below meth c ad D dA (AU ad U) 0 0 _ ⟨rfl, rfl, rfl, rfl, rfl, B.returns, B.notSynchronized⟩
    ⟨B.exec, B.bytes, hml, hown, fun w hw => hts w (List.mem_cons_of_mem _ hw), hK, hI, fun _ h => h, hF⟩ s.heap [] _ hP va_S.rf hl
/-! ===== rows: one an instruction ===== -/
def st1 (i : Nat) (v : AV) (al : List (Nat × AV)) : List (Nat × AV) := (i, v) :: al.filter (fun q => !(q.1 == i) && !(q.1 + 1 == i && isW q.2))
def st2 (i : Nat) (v : AV) (al : List (Nat × AV)) : List (Nat × AV) := (i, v) :: al.filter (fun q => !(q.1 == i) && (!(q.1 == i + 1) && !(q.1 + 1 == i && isW q.2)))
theorem st1_map (ad : Nat → Nat → Nat) (i : Nat) (v : AV) (al : List (Nat × AV)) : (i, cv ad v) :: (cvl ad al).filter (fun q => !(q.1 == i) && !(q.1 + 1 == i && q.2.category == 2)) = cvl ad (st1 i v al) := by
  unfold cvl st1
  rw [List.map_cons, List.filter_map]
  congr 1
  congr 1
  apply List.filter_congr
  intro q _
  simp only [Function.comp, cv_cat]
theorem st2_map (ad : Nat → Nat → Nat) (i : Nat) (v : AV) (al : List (Nat × AV)) : (i, cv ad v) :: (cvl ad al).filter (fun q => !(q.1 == i) && (!(q.1 == i + 1) && !(q.1 + 1 == i && q.2.category == 2))) = cvl ad (st2 i v al) := by
  unfold cvl st2
  rw [List.map_cons, List.filter_map]
  congr 1
  congr 1
  apply List.filter_congr
  intro q _
  simp only [Function.comp, cv_cat]
theorem lv_al {ad : Nat → Nat → Nat} {ls : Array Slot} {nL : Nat} {al : List (Nat × AV)} (h : lv_has ls nL (cvl ad al)) {k i : Nat} {v : AV} (hk : al[k]? = some (i, v)) : ls[i]? = some (.val (cv ad v)) :=
  lv_at h k (by rw [cvl, List.getElem?_map, hk]; rfl)
