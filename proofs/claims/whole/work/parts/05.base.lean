/-! ===== what is there before the law begins: the table of kinds, the six words, two statics of the library ===== -/
def abF : Nat → Value := fun j => match j with | 0 => .int (-1) | 1 => .int 0 | 2 => .int 0 | 3 => .int 1 | 4 => .int 2 | _ => .int 0
def nStr : Nat := 6
def lenS : List Nat := [4, 5, 4, 3, 2, 2]
def bytS : List (List Int32) := [[109, 101, 108, 116], [111, 119, 110, 101, 114], [102, 105, 110, 101], [119, 115, 122], [104, 119], [119, 115]]
def Fz (ad : Nat → Nat → Nat) (A : Nat → Prop) (T : State) (H : Heap) : Prop :=
  va_Z "RoofSnow" "ABOVE" "[I" (.ref (ad 60 0)) A T H ∧ va_T .int (ad 60 0) 6 abF A T H ∧ vk_S nStr lenS bytS (ad 61) (ad 62) A T H ∧
  va_Z "java/lang/String" "COMPACT_STRINGS" "Z" (.int 1) A T H ∧
  (va_Z "jdk/internal/util/Preconditions" "SIOOBE_FORMATTER" "Ljava/util/function/BiFunction;" .null A T H ∨ va_Z "jdk/internal/util/Preconditions" "SIOOBE_FORMATTER" "Ljava/util/function/BiFunction;" (.ref (ad 63 0)) A T H) ∧
  vk_R RX1 100 "melt" (ad 61 0) T ∧ vk_R RX1 102 "owner" (ad 61 1) T ∧ vk_R RX1 104 "fine" (ad 61 2) T ∧ vk_R RX1 106 "wsz" (ad 61 3) T ∧ vk_R RX1 108 "hw" (ad 61 4) T ∧ vk_R RX1 110 "ws" (ad 61 5) T ∧ va_Nw (.fieldLinkNest RX2 30 "RoofSnow" "ABOVE" "[I" "RoofSnow") T
theorem Fz.warm {ad : Nat → Nat → Nat} {A : Nat → Prop} {s T : State} {H : Heap} (hW : s.WarmedH T.vm) (h : Fz ad A s H) : Fz ad A T H := by
  obtain ⟨h1, h2, h3, h4, h5, r0, r1, r2, r3, r4, r5, r6⟩ := h
  exact ⟨h1.moved hW.alike, h2.moved hW.alike, h3.moved hW.alike, h4.moved hW.alike, h5.elim (fun z => Or.inl (z.moved hW.alike)) (fun z => Or.inr (z.moved hW.alike)), r0.warm hW, r1.warm hW, r2.warm hW, r3.warm hW, r4.warm hW, r5.warm hW, r6.warmF hW⟩
theorem Fz.same {ad : Nat → Nat → Nat} {A : Nat → Prop} {s T : State} {H : Heap} (hv : T.vm = s.vm) (h : Fz ad A s H) : Fz ad A T H := by
  have ha : s.vm.Alike T.vm := by rw [hv]; exact Vm.Alike.refl _
  obtain ⟨h1, h2, h3, h4, h5, r0, r1, r2, r3, r4, r5, r6⟩ := h
  exact ⟨h1.moved ha, h2.moved ha, h3.moved ha, h4.moved ha, h5.elim (fun z => Or.inl (z.moved ha)) (fun z => Or.inr (z.moved ha)), r0.same hv, r1.same hv, r2.same hv, r3.same hv, r4.same hv, r5.same hv, r6.same rfl hv.symm⟩
theorem Fz.kept {ad : Nat → Nat → Nat} {A : Nat → Prop} {s : State} {H H1 : Heap} (h : Fz ad A s H) (hq : ∀ a : Nat, a < H.size → ¬ A a → H1[a]? = H[a]?) : Fz ad A s H1 := by
  obtain ⟨h1, h2, h3, h4, h5, hr⟩ := h
  exact ⟨h1.kept hq, h2.kept hq, h3.kept hq, h4.kept hq, h5.elim (fun z => Or.inl (z.kept hq)) (fun z => Or.inr (z.kept hq)), hr⟩
theorem Fz.narrow {ad : Nat → Nat → Nat} {A B : Nat → Prop} {s : State} {H : Heap} (h : Fz ad A s H) (hAB : ∀ q, B q → A q) : Fz ad B s H := by
  obtain ⟨h1, h2, h3, h4, h5, hr⟩ := h
  exact ⟨h1.narrow hAB, h2.narrow hAB, h3.narrow hAB, h4.narrow hAB, h5.elim (fun z => Or.inl (z.narrow hAB)) (fun z => Or.inr (z.narrow hAB)), hr⟩
/-! ===== contracts over memories, and the walk of a body ===== -/
def rmD (d : Nat) : Room := { frames := d, cells := 0, slots := 0, locals := 64 * d }
def PB (ad : Nat → Nat → Nat) (D : va_G) (dA : Nat → Nat → ClassId) (U : Uv) (V : Mem) (T : State) : Prop :=
  va_P D vwCl (wsU ad dA U V) T.heap ∧ va_K D vwCl (tyU dA U) T ∧ Inj ad U ∧ Fz ad (AU ad U) T T.heap
def QR (ad : Nat → Nat → Nat) (D : va_G) (dA : Nat → Nat → ClassId) (U : Uv) (P : Option AV → Mem → Prop) : Array Value → State → Outcome → State → Prop := fun _ st oc t =>
  (∃ (v : Option AV) (V' : Mem), oc = .returned (v.map (cv ad)) ∧ P v V' ∧ PB ad D dA U V' t) ∧ va_F (AU ad U) st t
def wsM (M : MI) : List Cond := Cond.code M.1 M.2.1 M.2.2.1 M.2.2.2 :: WSU
def Cl (U : Uv) (d : Nat) (M : MI) (as : List AV) (V : Mem) (P : Option AV → Mem → Prop) : Prop :=
  ∀ (l : Launch) (ad : Nat → Nat → Nat) (D : va_G) (dA : Nat → Nat → ClassId), Met l M.1 (wsM M) (rmD d) (va_Pc (as.map (cv ad)) (PB ad D dA U V)) (QR ad D dA U P) 0 0 (AU ad U)
def Ctx (p : Program) (s : State) (m : MethodId) (args : Array Value) (c : Code) (ad : Nat → Nat → Nat) (D : va_G) (dA : Nat → Nat → ClassId) (U : Uv) (A : Nat → Prop) (cc : ByteArray) (nL : Nat) (own : String) : Prop :=
  p.tables.exec = Jvm.exec ∧ c.code = cc ∧ c.maxLocals = nL ∧ s.vm.findClass own = some m.cls ∧ (∀ w ∈ WSU, w.before args s = true) ∧ va_K D vwCl (tyU dA U) s ∧ Inj ad U ∧ (∀ q, AU ad U q → A q) ∧ Fz ad A s s.heap
abbrev KT : Type := Program → Launch → Env → Room → State → MethodId → Array Value → List Frame → Method → Code → (Nat → Nat → Nat) → va_G → (Nat → Nat → ClassId) → (Nat → Prop) → Nat → Nat → (State → Prop) → Prop
abbrev cvl (ad : Nat → Nat → Nat) (al : List (Nat × AV)) : List (Nat × Value) := al.map (fun q => (q.1, cv ad q.2))
def Gq (Φ : KT) (U : Uv) (cc : ByteArray) (nL : Nat) (own : String) (pc : Nat) (al : List (Nat × AV)) (st : List AV) (V : Mem) : Prop :=
  ∀ (p : Program) (l : Launch) (e : Env) (R : Room) (s : State) (m : MethodId) (args : Array Value) (below : List Frame) (meth : Method) (c : Code) (ad : Nat → Nat → Nat) (D : va_G) (dA : Nat → Nat → ClassId) (A : Nat → Prop) (cells slots : Nat) (Qf : State → Prop),
    Φ p l e R s m args below meth c ad D dA A cells slots Qf → Ctx p s m args c ad D dA U A cc nL own →
    ∀ (H : Heap) (locs : List Loc) (ls : Array Slot), va_P D vwCl (wsU ad dA U V) H → va_S A s.heap H locs → lv_has ls nL (cvl ad al) →
      W p l e R s m args below meth c H locs cells slots Qf (F0 m pc ls (st.map (cv ad)))
/-- the context of a method's body -/
def Kp (d : Nat) (M : MI) (U : Uv) (P : Option AV → Mem → Prop) : KT := fun p l e R s m args below meth c ad D dA A cells slots Qf =>
  R = rmD d ∧ A = AU ad U ∧ cells = 0 ∧ slots = 0 ∧ Qf = MQ below (QR ad D dA U P) args s 0 0 (AU ad U) ∧ meth.sig.returnType = M.2.2.2 ∧ meth.locks = false
theorem cl_of {U : Uv} {d : Nat} {M : MI} {as : List AV} {V : Mem} {P : Option AV → Mem → Prop} (al : List (Nat × AV)) (hy : plainName M.1.cls = true) (hn : ∀ ad, (lg_sl (as.map (cv ad))).length ≤ M.2.2.1) (hal : ∀ ad, lv_args 0 (as.map (cv ad)) = cvl ad al)
    (h : Gq (Kp d M U P) U M.2.1 M.2.2.1 M.1.cls 0 al [] V) : Cl U d M as V P := by
  intro l ad D dA
  refine Met.ofW (cc := M.2.1) (maxL := M.2.2.1) (ret := M.2.2.2) hy rfl ?_
  intro p e s m args below meth c s₁ B hml hv
  obtain ⟨rfl, hP, hK, hI, hF⟩ := hv
  have hts := atoms_spec (ws := wsM M) B.pre
  have hown : s.vm.findClass M.1.cls = some m.cls := findClass_of_methodNamed B.named
  rw [lg_entry_eq]
  have hl := lv_entry (as.map (cv ad)) (hn ad)
  rw [hal ad] at hl
  exact h p l e (rmD d) s m _ below meth c ad D dA (AU ad U) 0 0 _ ⟨rfl, rfl, rfl, rfl, rfl, B.returns, B.notSynchronized⟩
    ⟨B.exec, B.bytes, hml, hown, fun w hw => hts w (List.mem_cons_of_mem _ hw), hK, hI, fun _ h => h, hF⟩ s.heap [] _ hP va_S.rf hl
/-! ===== rows: one an instruction ===== -/
def st1 (i : Nat) (v : AV) (al : List (Nat × AV)) : List (Nat × AV) := (i, v) :: al.filter (fun q => !(q.1 == i) && !(q.1 + 1 == i && isW q.2))
def st2 (i : Nat) (v : AV) (al : List (Nat × AV)) : List (Nat × AV) := (i, v) :: al.filter (fun q => !(q.1 == i) && (!(q.1 == i + 1) && !(q.1 + 1 == i && isW q.2)))
theorem st1_map (ad : Nat → Nat → Nat) (i : Nat) (v : AV) (al : List (Nat × AV)) : (i, cv ad v) :: (cvl ad al).filter (fun q => !(q.1 == i) && !(q.1 + 1 == i && q.2.category == 2)) = cvl ad (st1 i v al) := by
  unfold cvl st1
  rw [List.map_cons, List.filter_map]
  congr 1
  congr 1
  apply List.filter_congr
  intro q _
  simp only [Function.comp, cv_cat]
theorem st2_map (ad : Nat → Nat → Nat) (i : Nat) (v : AV) (al : List (Nat × AV)) : (i, cv ad v) :: (cvl ad al).filter (fun q => !(q.1 == i) && (!(q.1 == i + 1) && !(q.1 + 1 == i && q.2.category == 2))) = cvl ad (st2 i v al) := by
  unfold cvl st2
  rw [List.map_cons, List.filter_map]
  congr 1
  congr 1
  apply List.filter_congr
  intro q _
  simp only [Function.comp, cv_cat]
theorem lv_al {ad : Nat → Nat → Nat} {ls : Array Slot} {nL : Nat} {al : List (Nat × AV)} (h : lv_has ls nL (cvl ad al)) {k i : Nat} {v : AV} (hk : al[k]? = some (i, v)) : ls[i]? = some (.val (cv ad v)) :=
  lv_at h k (by rw [cvl, List.getElem?_map, hk]; rfl)
