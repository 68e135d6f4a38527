/-! ===== making: the cells in the order in which they come, and what they hold till they are done ===== -/
def Ord : List (Nat × Nat) := [(0, 0), (1, 0), (7, 0), (8, 0), (9, 0), (10, 0), (11, 0), (11, 1), (11, 2), (11, 3), (11, 4), (11, 5), (11, 6), (11, 7), (11, 8), (11, 9), (11, 10), (11, 11), (11, 12), (11, 13), (12, 0), (2, 0), (13, 0), (14, 0), (15, 0), (16, 0), (3, 0), (3, 1), (3, 2), (3, 3), (3, 4), (3, 5), (3, 6), (3, 7), (2, 1), (13, 1), (14, 1), (15, 1), (16, 1), (3, 8), (3, 9), (3, 10), (3, 11), (3, 12), (3, 13), (3, 14), (3, 15), (2, 2), (13, 2), (14, 2), (15, 2), (16, 2), (3, 16), (3, 17), (3, 18), (3, 19), (3, 20), (3, 21), (3, 22), (3, 23), (17, 0), (6, 0), (18, 0), (19, 0), (20, 0), (21, 0), (22, 0), (4, 0), (23, 0), (4, 1), (23, 1), (4, 2), (23, 2), (4, 3), (23, 3), (5, 0), (3, 24), (4, 4), (23, 4), (5, 1), (3, 25), (4, 5), (23, 5), (5, 2), (3, 26), (4, 6), (23, 6), (5, 3), (3, 27), (4, 7), (23, 7), (5, 4), (3, 28), (4, 8), (23, 8), (24, 0), (25, 0), (26, 0), (27, 0), (28, 0), (29, 0), (30, 0), (31, 0), (32, 0), (33, 0), (34, 0), (35, 0), (36, 0), (37, 0), (38, 0), (39, 0), (40, 0), (41, 0), (42, 0), (43, 0), (44, 0), (45, 0)]
theorem Ord_len : Ord.length = 117 := rfl
theorem Ord_nd : ∀ a, a < 117 → ∀ b, b < 117 → Ord[a]? = Ord[b]? → a = b := by decide +kernel
theorem Ord_lt {j : Nat} {x : Nat × Nat} (h : Ord[j]? = some x) : j < 117 := by
  have := (List.getElem?_eq_some_iff.mp h).1
  rw [Ord_len] at this
  exact this
theorem Ord_eq {a b : Nat} {x : Nat × Nat} (h1 : Ord[a]? = some x) (h2 : Ord[b]? = some x) : a = b := Ord_nd a (Ord_lt h1) b (Ord_lt h2) (h1.trans h2.symm)
def slen (r : Nat) : Nat := match sh r with | .inl q => q.2.length | .inr q => q.1
def SLT : Nat → Nat
  | 0 => 0
  | k + 1 => SLT k + (match Ord[k]? with | some q => slen q.1 | none => 0)
theorem SLT_s {k r i : Nat} (h : Ord[k]? = some (r, i)) : SLT (k + 1) = SLT k + slen r := by rw [SLT, h]
theorem SLT_le : ∀ (a f : Nat), SLT a ≤ SLT (a + f)
  | _, 0 => Nat.le_refl _
  | a, f + 1 => Nat.le_trans (SLT_le a f) (by rw [← Nat.add_assoc, SLT]; exact Nat.le_add_right _ _)
theorem SLT_mono {a b : Nat} (h : a ≤ b) : SLT a ≤ SLT b := by
  have := SLT_le a (b - a)
  rw [show a + (b - a) = b by omega] at this
  exact this
/-- a reference's slot holds 0 till it is written -/
def fvN (ad : Nat → Nat → Nat) (f : Nat → Int32) (i k : Nat) : Option (Nat × (Nat → Nat)) → Value
  | none => Value.int (f k)
  | some q => if f k = 0 then Value.null else Value.ref (ad q.1 (q.2 i))
def fvsN (ad : Nat → Nat → Nat) (f : Nat → Int32) (i : Nat) (ks : List (Option (Nat × (Nat → Nat)))) : List Value := ks.mapIdx (fun k o => fvN ad f i k o)
def rfN (ad : Nat → Nat → Nat) (f : Nat → Int32) (i : Nat) (q : Nat × (Nat → Nat → Nat)) : Nat → Option Nat := fun j => if f j = 0 then none else some (ad q.1 (q.2 i j))
def cEN (ad : Nat → Nat → Nat) (dA : Nat → Nat → ClassId) (f : Nat → Int32) (r i : Nat) : va_E := match sh r with
  | .inl q => .inr (q.1, fvsN ad f i q.2)
  | .inr (n, _, none) => .inl (dA r i, n, .inl f)
  | .inr (n, _, some q) => .inl (dA r i, n, .inr (.inr (.inr (.inr (rfN ad f i q)))))
def wsK (ad : Nat → Nat → Nat) (dA : Nat → Nat → ClassId) (k : Nat) (V : Mem) : va_W := (Ord.take k).map (fun q => (ad q.1 q.2, cEN ad dA (V q.1 q.2) q.1 q.2))
def AdO (ad : Nat → Nat → Nat) (B : Nat) : Prop := ∀ (j : Nat) (x : Nat × Nat), Ord[j]? = some x → ad x.1 x.2 = B + j
section WSK
variable {ad : Nat → Nat → Nat} {dA : Nat → Nat → ClassId} {B k j r i : Nat} {V : Mem} {f : Nat → Int32} {e : va_E}
theorem wk_at (V : Mem) (h : Ord[j]? = some (r, i)) (hj : j < k) : (wsK ad dA k V)[j]? = some (ad r i, cEN ad dA (V r i) r i) := by
  rw [wsK, List.getElem?_map, List.getElem?_take_of_lt hj, h]; rfl
theorem wk_get {q : Nat × va_E} (h : (wsK ad dA k V)[j]? = some q) : ∃ x, Ord[j]? = some x ∧ j < k ∧ q = (ad x.1 x.2, cEN ad dA (V x.1 x.2) x.1 x.2) := by
  rw [wsK, List.getElem?_map] at h
  by_cases hj : j < k
  · rw [List.getElem?_take_of_lt hj] at h
    cases hu : Ord[j]? with
    | none => rw [hu] at h; cases h
    | some x => rw [hu] at h; cases h; exact ⟨x, rfl, hj, rfl⟩
  · have : (Ord.take k)[j]? = none := List.getElem?_eq_none (by rw [List.length_take]; omega)
    rw [this] at h
    cases h
theorem wk_D (V : Mem) (hA : AdO ad B) : va_D (fun q => B ≤ q) (wsK ad dA k V) := by
  refine ⟨fun a b p q ha hb hpq => ?_, fun a q ha => ?_⟩
  · obtain ⟨x, x1, -, x2⟩ := wk_get ha
    obtain ⟨y, y1, -, y2⟩ := wk_get hb
    rw [x2, y2] at hpq
    have h1 := hA a x x1
    have h2 := hA b y y1
    have hpq : ad x.1 x.2 = ad y.1 y.2 := hpq
    omega
  · obtain ⟨x, x1, -, x2⟩ := wk_get ha
    rw [x2]
    show B ≤ ad x.1 x.2
    rw [hA a x x1]
    omega
theorem wk_set (h : Ord[j]? = some (r, i)) (hj : j < k) (he : cEN ad dA f r i = e) : (wsK ad dA k V).set j (ad r i, e) = wsK ad dA k (ma V r i f) := by
  apply List.ext_getElem?
  intro q
  by_cases hq : q = j
  · subst hq
    have hl : q < (wsK ad dA k V).length := (List.getElem?_eq_some_iff.mp (wk_at V h hj)).1
    rw [List.getElem?_set_self hl, wk_at _ h hj, ma_same, he]
  · rw [List.getElem?_set_ne (Ne.symm hq), wsK, wsK, List.getElem?_map, List.getElem?_map]
    cases hu : (Ord.take k)[q]? with
    | none => rfl
    | some x =>
      have hne : ¬ (x.1 = r ∧ x.2 = i) := fun z => hq (by
        have h2 : Ord[q]? = some x := by
          have hqk : q < k := by
            have := (List.getElem?_eq_some_iff.mp hu).1
            rw [List.length_take] at this
            omega
          rw [List.getElem?_take_of_lt hqk] at hu
          exact hu
        have hx : x = (r, i) := by rw [← z.1, ← z.2]
        rw [hx] at h2
        exact Ord_eq h2 h)
      show some (ad x.1 x.2, cEN ad dA (V x.1 x.2) x.1 x.2) = some (ad x.1 x.2, cEN ad dA (ma V r i f x.1 x.2) x.1 x.2)
      rw [ma_ne hne]
theorem wk_push (V : Mem) (h : Ord[k]? = some (r, i)) : wsK ad dA (k + 1) (ma V r i f) = wsK ad dA k V ++ [(ad r i, cEN ad dA f r i)] := by
  have hk := Ord_lt h
  have hk' : k < Ord.length := by rw [Ord_len]; exact hk
  have e1 : Ord[k] = (r, i) := by
    have := List.getElem?_eq_getElem hk'
    rw [h] at this
    exact (Option.some.inj this).symm
  rw [wsK, List.take_succ_eq_append_getElem hk', List.map_append, e1]
  congr 1
  · rw [wsK]
    apply List.map_congr_left
    intro x hx
    obtain ⟨q, hq⟩ := List.getElem?_of_mem hx
    have hqk : q < k := by
      have := (List.getElem?_eq_some_iff.mp hq).1
      rw [List.length_take] at this
      omega
    rw [List.getElem?_take_of_lt hqk] at hq
    have hne : ¬ (x.1 = r ∧ x.2 = i) := fun z => by
      have hx : x = (r, i) := by rw [← z.1, ← z.2]
      rw [hx] at hq
      have := Ord_eq hq h
      omega
    rw [ma_ne hne]
  · show [(ad r i, cEN ad dA (ma V r i f r i) r i)] = _
    rw [ma_same]
end WSK
/-! ===== contracts of makers ===== -/
def NW (T : State) : Prop := va_Nw (.methodLinkNest RX6 9 yX0_init RX6) T ∧ va_Nw (.methodLinkNest RX5 66 yX2_init RX6) T ∧ va_Nw (.methodLinkNest RX6 73 yX3_init RX6) T ∧ va_Nw (.methodLinkNest RX6 74 yX4_init RX6) T ∧ va_Nw (.methodLinkNest RX4 20 yX2_init RX6) T ∧ va_Nw (.methodLinkNest RX4 27 yX3_init RX6) T ∧ va_AO RX2 T ∧ va_AO RX3 T ∧ va_AO RX4 T ∧ (Cond.arrayOver (.array .int)).before #[] T = true
theorem NW.warm {s T : State} (hW : s.WarmedH T.vm) (h : NW s) : NW T := by
  obtain ⟨h1, h2, h3, h4, h5, h6, h7, h8, h9, h10⟩ := h
  exact ⟨h1.warmM hW, h2.warmM hW, h3.warmM hW, h4.warmM hW, h5.warmM hW, h6.warmM hW, h7.moved hW.alike, h8.moved hW.alike, h9.moved hW.alike, over_moved hW.alike h10⟩
theorem NW.same {s T : State} (hv : T.vm = s.vm) (h : NW s) : NW T := by
  have ha : s.vm.Alike T.vm := by rw [hv]; exact Vm.Alike.refl _
  obtain ⟨h1, h2, h3, h4, h5, h6, h7, h8, h9, h10⟩ := h
  exact ⟨h1.same rfl hv.symm, h2.same rfl hv.symm, h3.same rfl hv.symm, h4.same rfl hv.symm, h5.same rfl hv.symm, h6.same rfl hv.symm, h7.moved ha, h8.moved ha, h9.moved ha, over_moved ha h10⟩
def PBN (ad : Nat → Nat → Nat) (D : va_G) (dA : Nat → Nat → ClassId) (B k : Nat) (V : Mem) (T : State) : Prop :=
  va_P D vwCl (wsK ad dA k V) T.heap ∧ va_K D vwCl (tyU dA Ord) T ∧ AdO ad B ∧ NW T ∧ T.heap.size = B + k
def QRN (ad : Nat → Nat → Nat) (D : va_G) (dA : Nat → Nat → ClassId) (B k1 : Nat) (P : Mem → Prop) : Array Value → State → Outcome → State → Prop := fun _ st oc t =>
  (∃ V' : Mem, oc = .returned none ∧ P V' ∧ PBN ad D dA B k1 V' t) ∧ va_F (fun q => B ≤ q) st t
def rmI (d mc ms : Nat) : Room := { frames := d, cells := mc, slots := ms, locals := 64 * d }
def Ci (d : Nat) (M : MI) (as : List AV) (k : Nat) (V : Mem) (k1 : Nat) (P : Mem → Prop) : Prop :=
  ∀ (l : Launch) (ad : Nat → Nat → Nat) (D : va_G) (dA : Nat → Nat → ClassId) (B : Nat), Met l M.1 (wsM M) (rmI d (k1 - k) (SLT k1 - SLT k)) (va_Pc (as.map (cv ad)) (PBN ad D dA B k V)) (QRN ad D dA B k1 P) (k1 - k) (SLT k1 - SLT k) (fun q => B ≤ q)
def CtxN (p : Program) (s : State) (m : MethodId) (args : Array Value) (c : Code) (ad : Nat → Nat → Nat) (D : va_G) (dA : Nat → Nat → ClassId) (B k0 : Nat) (cc : ByteArray) (nL : Nat) (own : String) : Prop :=
  p.tables.exec = Jvm.exec ∧ c.code = cc ∧ c.maxLocals = nL ∧ s.vm.findClass own = some m.cls ∧ (∀ w ∈ WSU, w.before args s = true) ∧ va_K D vwCl (tyU dA Ord) s ∧ AdO ad B ∧ NW s ∧ s.heap.size = B + k0
abbrev KJ : Type := Program → Launch → Env → Room → State → MethodId → Array Value → List Frame → Method → Code → (Nat → Nat → Nat) → va_G → (Nat → Nat → ClassId) → Nat → Nat → (State → Prop) → Prop
def Hq (Φ : KJ) (cc : ByteArray) (nL : Nat) (own : String) (pc : Nat) (al : List (Nat × AV)) (st : List AV) (k : Nat) (V : Mem) : Prop :=
  ∀ (p : Program) (l : Launch) (e : Env) (R : Room) (s : State) (m : MethodId) (args : Array Value) (below : List Frame) (meth : Method) (c : Code) (ad : Nat → Nat → Nat) (D : va_G) (dA : Nat → Nat → ClassId) (B k0 : Nat) (Qf : State → Prop),
    Φ p l e R s m args below meth c ad D dA B k0 Qf → CtxN p s m args c ad D dA B k0 cc nL own →
    ∀ (H : Heap) (locs : List Loc) (ls : Array Slot), va_P D vwCl (wsK ad dA k V) H → va_S (fun q => B ≤ q) s.heap H locs → H.size = B + k → k0 ≤ k → lv_has ls nL (cvl ad al) →
      W p l e R s m args below meth c H locs (k - k0) (SLT k - SLT k0) Qf (F0 m pc ls (st.map (cv ad)))
def KI (d : Nat) (k k1 : Nat) (P : Mem → Prop) : KJ := fun p l e R s m args below meth c ad D dA B k0 Qf =>
  k0 = k ∧ R = rmI d (k1 - k) (SLT k1 - SLT k) ∧ Qf = MQ below (QRN ad D dA B k1 P) args s (k1 - k) (SLT k1 - SLT k) (fun q => B ≤ q) ∧ meth.sig.returnType = none ∧ meth.locks = false ∧ meth.name = "<init>"
theorem ci_of {d k k1 : Nat} {M : MI} {as : List AV} {V : Mem} {P : Mem → Prop} (al : List (Nat × AV)) (hy : plainName M.1.cls = true) (hn : ∀ ad, (lg_sl (as.map (cv ad))).length ≤ M.2.2.1) (hal : ∀ ad, lv_args 0 (as.map (cv ad)) = cvl ad al) (hr : M.2.2.2 = none) (hnm : M.1.name = "<init>")
    (h : Hq (KI d k k1 P) M.2.1 M.2.2.1 M.1.cls 0 al [] k V) : Ci d M as k V k1 P := by
  intro l ad D dA B
  refine Met.ofW (cc := M.2.1) (maxL := M.2.2.1) (ret := M.2.2.2) hy rfl ?_
  intro p e s m args below meth c s₁ B9 hml hv
  obtain ⟨rfl, hP, hK, hA, hN, hz⟩ := hv
  have hts := atoms_spec (ws := wsM M) B9.pre
  have hown : s.vm.findClass M.1.cls = some m.cls := findClass_of_methodNamed B9.named
  have hin : meth.name = "<init>" := (name_of_methodNamed B9.named B9.method).1.trans hnm
  rw [lg_entry_eq]
  have hl := lv_entry (as.map (cv ad)) (hn ad)
  rw [hal ad] at hl
  have := h p l e (rmI d (k1 - k) (SLT k1 - SLT k)) s m _ below meth c ad D dA B k _ ⟨rfl, rfl, rfl, B9.returns.trans hr, B9.notSynchronized, hin⟩
    ⟨B9.exec, B9.bytes, hml, hown, fun w hw => hts w (List.mem_cons_of_mem _ hw), hK, hA, hN, hz⟩ s.heap [] _ hP va_S.rf hz (Nat.le_refl k) hl
  rw [Nat.sub_self, Nat.sub_self] at this
  exact this
