/-! ===== making: a row of rows ===== -/
def mfC (cA N h i : Nat) : Cell := arrV cA N (fun j => if j < i then .ref (h + 1 + j) else .null)
def mfS (U : State) (h cA cB N M : Nat) : Nat → State
  | 0 => U.pushCell (mfC cA N h 0)
  | i + 1 => ((mfS U h cA cB N M i).pushCell (arrV cB M (fun _ => .int 0))).setCell h (mfC cA N h (i + 1))
theorem mfC_set (cA N h i : Nat) : (mfC cA N h i).setSlot i (.ref (h + 1 + i)) = mfC cA N h (i + 1) := by
  rw [mfC, arrV_store, mfC]
  congr 1
  funext j
  rw [updV]
  by_cases hj : j = i
  · subst hj
    rw [if_pos rfl, if_pos (by omega)]
  · rw [if_neg hj]
    by_cases h2 : j < i
    · rw [if_pos h2, if_pos (by omega)]
    · rw [if_neg h2, if_neg (by omega)]
theorem setCell_ne {U : State} {a q : Nat} {x : Cell} (h : q ≠ a) : (U.setCell a x).heap[q]? = U.heap[q]? := by
  show (U.heap.setIfInBounds a x)[q]? = _
  rw [Array.getElem?_setIfInBounds, if_neg (Ne.symm h)]
theorem mfS_facts {U : State} {h cA cB N M : Nat} (hh : U.heap.size = h) : ∀ i, (mfS U h cA cB N M i).heap.size = h + 1 + i ∧ (mfS U h cA cB N M i).vm = U.vm ∧ (mfS U h cA cB N M i).slotsUsed = U.slotsUsed + N + i * M ∧ (mfS U h cA cB N M i).heap[h]? = some (mfC cA N h i) ∧ (∀ q, q < h → (mfS U h cA cB N M i).heap[q]? = U.heap[q]?) ∧ (∀ j, j < i → (mfS U h cA cB N M i).heap[h + 1 + j]? = some (arrV cB M (fun _ => .int 0))) ∧ (mfS U h cA cB N M i).topJava? = U.topJava?
  | 0 => by
    subst hh
    refine ⟨by show (U.heap.push _).size = _; rw [Array.size_push], rfl, ?_, ?_, ?_, ?_, rfl⟩
    · show U.slotsUsed + (mfC cA N U.heap.size 0).slots.size = _
      rw [mfC, arrV_size]
      omega
    · show (U.heap.push _)[U.heap.size]? = _
      rw [Array.getElem?_push, if_pos rfl]
    · intro q hq
      show (U.heap.push _)[q]? = _
      rw [Array.getElem?_push, if_neg (Nat.ne_of_lt hq)]
    · intro j hj
      omega
  | i + 1 => by
    obtain ⟨a1, a2, a3, a4, a5, a6, a7⟩ := mfS_facts (cA := cA) (cB := cB) (N := N) (M := M) hh i
    have hp : ∀ q, q < h + 1 + i → ((mfS U h cA cB N M i).pushCell (arrV cB M (fun _ => .int 0))).heap[q]? = (mfS U h cA cB N M i).heap[q]? := by
      intro q hq
      show (Array.push _ _)[q]? = _
      rw [Array.getElem?_push, if_neg (by omega)]
    refine ⟨?_, a2, ?_, ?_, ?_, ?_, a7⟩
    · show ((Array.push (mfS U h cA cB N M i).heap _).setIfInBounds h _).size = _
      rw [Array.size_setIfInBounds, Array.size_push, a1]
      omega
    · show (mfS U h cA cB N M i).slotsUsed + (arrV cB M (fun _ => .int 0)).slots.size = _
      rw [a3, arrV_size, Nat.succ_mul]
      omega
    · exact State.heap_setCell_self ((hp h (by omega)).trans a4)
    · intro q hq
      exact (setCell_ne (by omega)).trans ((hp q (by omega)).trans (a5 q hq))
    · intro j hj
      refine (setCell_ne (by omega)).trans ?_
      by_cases h2 : j = i
      · subst h2
        show (Array.push _ _)[_]? = _
        rw [Array.getElem?_push, if_pos (by omega)]
      · exact (hp _ (by omega)).trans (a6 j (by omega))
theorem mfS_st {p : Program} {l : Launch} {e : Env} {R : Room} {s : State} {m : MethodId} {args : Array Value} {below : List Frame} {meth : Method} {c : Code} {U : State} {locs : List Loc} {cells slots h cA cB N M : Nat} (hh : U.heap.size = h) (X : Stand p l e R s m args below meth c U locs cells slots) : ∀ i, ∃ L : List Loc, (∀ q ∈ L, q.base = h) ∧ Stand p l e R s m args below meth c (mfS U h cA cB N M i) (locs ++ L) (cells + 1 + i) (slots + N + i * M)
  | 0 => by
    refine ⟨[], (by intro q hq; cases hq), ?_⟩
    have := X.pushed (mfC cA N h 0)
    rw [mfC, arrV_size] at this
    rw [List.append_nil, Nat.zero_mul, Nat.add_zero, Nat.add_zero]
    exact this
  | i + 1 => by
    obtain ⟨L, hL, Y⟩ := mfS_st (cA := cA) (cB := cB) (N := N) (M := M) hh X i
    obtain ⟨a1, a2, a3, a4, -⟩ := mfS_facts (cA := cA) (cB := cB) (N := N) (M := M) hh i
    have Y1 := Y.pushed (arrV cB M (fun _ => .int 0))
    have hc : ((mfS U h cA cB N M i).pushCell (arrV cB M (fun _ => .int 0))).heap[h]? = some (mfC cA N h i) := by
      show (Array.push _ _)[_]? = _
      rw [Array.getElem?_push, if_neg (by omega)]
      exact a4
    have Y2 := Y1.stored hc i (.ref (h + 1 + i))
    rw [mfC_set, arrV_size] at Y2
    refine ⟨L ++ [⟨h, i⟩], fun q hq => ?_, ?_⟩
    · rcases List.mem_append.mp hq with h1 | h1
      · exact hL q h1
      · rw [List.mem_singleton.mp h1]
    · rw [← List.append_assoc, show slots + N + (i + 1) * M = slots + N + i * M + M by rw [Nat.succ_mul]; omega]
      exact Y2
section MULTI
variable {E : CtlPost} {e : Env}
theorem wp_in {U : State} {f : JFrame} {cB M : Nat} {x : Int32} {kB : Class} {comp : ClassId} (hM : x.toNatClampNeg = M) (hx : ¬ x < 0) (hk : U.vm.classes[cB]? = some kB) (hkind : kB.kind = .array comp .int) (hlimit : ¬ M > e.platform.arrayLengthLimit) (hheap : ¬ M * componentBytes .int > e.platform.maxHeapBytes) (hcells : U.heap.size < e.platform.maxCells) (hslots : U.slotsUsed + M ≤ e.platform.maxSlots) {Q : Addr → Pre} {d : Bool} {acts : List Action}
    (hq : ∀ d' acts', Q U.heap.size d' acts' ((U.pushCell (arrV cB M (fun _ => .int 0))).setTop f)) : wp (multianewarray.make cB [x]) Q E e d acts (U.setTop f) := by
  unfold multianewarray.make
  simp only [wp_bind', W.ite, hx, if_false, wp_pure', W.theClass, State.vm_setTop, hk, Option.some.injEq, exists_eq_left', hkind]
  rw [hM]
  refine W.newArray_of (s := U.setTop f) hk hkind hlimit hheap hcells hslots rfl (fun acts' => ?_)
  have := hq d acts'
  rw [← arrV_new] at this
  exact this
theorem wp_loop {U : State} {f : JFrame} {h cA cB N M : Nat} {x : Int32} {kA kB : Class} {compA comp : ClassId} (hh : U.heap.size = h) (hM : x.toNatClampNeg = M) (hx : ¬ x < 0) (hkA : U.vm.classes[cA]? = some kA) (hkindA : kA.kind = .array compA (.array .int)) (hk : U.vm.classes[cB]? = some kB) (hkind : kB.kind = .array comp .int) (hlimit : ¬ M > e.platform.arrayLengthLimit) (hheap : ¬ M * componentBytes .int > e.platform.maxHeapBytes) (hcells : h + 1 + N ≤ e.platform.maxCells) (hslots : U.slotsUsed + N + N * M ≤ e.platform.maxSlots) {Q : PUnit → Pre} :
    ∀ (n i : Nat) (d : Bool) (acts : List Action), i + n = N → (∀ d' acts', Q PUnit.unit d' acts' ((mfS U h cA cB N M N).setTop f)) →
      wp (forIn (List.range' i n) PUnit.unit (fun i (_ : PUnit) => do
        writeLoc h i (.ref (← multianewarray.make cB [x]))
        Pure.pure (ForInStep.yield PUnit.unit))) Q E e d acts ((mfS U h cA cB N M i).setTop f)
  | 0, i, d, acts, hi, hq => by
    simp only [List.range'_zero, List.forIn_nil, wp_pure']
    have : i = N := by omega
    subst this
    exact hq d acts
  | n + 1, i, d, acts, hi, hq => by
    obtain ⟨a1, a2, a3, a4, -⟩ := mfS_facts (cA := cA) (cB := cB) (N := N) (M := M) hh i
    rw [List.range'_succ]
    simp only [List.forIn_cons, wp_bind']
    have hm : (i + 1) * M ≤ N * M := Nat.mul_le_mul_right _ (by omega)
    rw [Nat.succ_mul] at hm
    refine wp_in (E := E) hM hx (by rw [a2]; exact hk) hkind hlimit hheap (by rw [a1]; omega) (by rw [a3]; omega) (fun d' acts' => ?_)
    rw [a1, wp_bind']
    simp only [W.writeLoc, wp_pure']
    refine ⟨mfC cA N h i, ?_, ?_, ?_, ?_, ?_⟩
    · show (Array.push _ _)[_]? = _
      rw [Array.getElem?_push, if_neg (by omega)]
      exact a4
    · intro z
      cases z
    · rw [mfC, arrV_size]
      omega
    · show State.fitsSlot _ cA .none i _ = true
      have : (mfS U h cA cB N M i).vm.classes[cA]? = some kA := by
        rw [a2]
        exact hkA
      simp [State.fitsSlot, State.slotType?, this, hkindA, fits]
    · rw [mfC_set]
      exact wp_loop hh hM hx hkA hkindA hk hkind hlimit hheap hcells hslots n (i + 1) _ _ (by omega) hq
theorem wp_multi {T : State} {vm₁ : Vm} {g : JFrame} {h cA cB N M index : Nat} {n x : Int32} {kA kB : Class} {comp : ClassId} {rest : List Value} (htop : T.topJava?.isSome) (hg₁ : (Jvm.resolveClass g.method.cls index).Gives e.toSetting T.vm (.ok cA) vm₁) (hsz : vm₁.classes.size ≤ T.vm.classes.size) (hst : g.stack = .int x :: .int n :: rest)
    (hh : T.heap.size = h) (hN : n.toNatClampNeg = N) (hn : ¬ n < 0) (hn0 : (n == 0) = false) (hM : x.toNatClampNeg = M) (hx : ¬ x < 0) (hkA : vm₁.classes[cA]? = some kA) (hkindA : kA.kind = .array cB (.array .int)) (hk : vm₁.classes[cB]? = some kB) (hkind : kB.kind = .array comp .int) (hlimit : ¬ M > e.platform.arrayLengthLimit) (hheap : ¬ M * componentBytes .int > e.platform.maxHeapBytes) (hlimitN : ¬ N > e.platform.arrayLengthLimit) (hheapN : ¬ N * componentBytes (.array .int) > e.platform.maxHeapBytes) (hcells : h + 1 + N ≤ e.platform.maxCells) (hslots : T.slotsUsed + N + N * M ≤ e.platform.maxSlots) {Q : Unit → Pre} {d : Bool} {acts : List Action}
    (hq : ∀ d' acts', Q () d' acts' ((mfS (T.setVm vm₁) h cA cB N M N).setTop { g with stack := .ref h :: rest })) : wp (multianewarray.sem index 2) Q E e d acts (T.setTop g) := by
  have hm : (T.setTop g).method? = some g.method := State.method?_setTop g htop
  unfold multianewarray.sem
  rw [wp_bind', W.resolveClassAt_links hm hg₁ hsz, State.setVm_setTop, wp_bind']
  refine (popN_top (s := T.setVm vm₁) (f := g) (args := [.int n, .int x]) (rest := rest) htop (by rw [hst]; rfl)).mpr ?_
  simp only [wp_bind', List.mapM_cons, List.mapM_nil, wp_pure']
  unfold multianewarray.make
  simp only [wp_bind', W.ite, hn, if_false, wp_pure', W.theClass, State.vm_setTop, State.vm_setVm, hkA, Option.some.injEq, exists_eq_left', hkindA]
  rw [hN]
  have h2 : (T.setVm vm₁).heap.size = h := hh
  refine W.newArray_of (s := (T.setVm vm₁).setTop { g with stack := rest }) hkA hkindA hlimitN hheapN (by show (T.setVm vm₁).heap.size < _; rw [h2]; omega) (by show T.slotsUsed + N ≤ _; omega) rfl (fun acts' => ?_)
  simp only [hn0, Bool.false_eq_true, if_false]
  rw [wp_bind', Std.Legacy.Range.forIn_eq_forIn_range']
  have e1 : Array.size ((T.setVm vm₁).setTop { g with stack := rest }).heap = h := hh
  rw [e1]
  have e2 : ((T.setVm vm₁).setTop { g with stack := rest }).pushCell { cls := cA, slots := Array.replicate N Value.null } = (mfS (T.setVm vm₁) h cA cB N M 0).setTop { g with stack := rest } := by
    rw [State.pushCell_setTop]
    have : ({ cls := cA, slots := Array.replicate N Value.null } : Cell) = mfC cA N h 0 := by
      rw [arrV_new]
      rfl
    rw [this]
    rfl
  rw [e2]
  refine wp_loop (U := T.setVm vm₁) h2 hM hx hkA hkindA hk hkind hlimit hheap hcells hslots _ 0 _ _ (by show 0 + (N - 0 + 1 - 1) / 1 = N; rw [Nat.div_one]; omega) (fun d' acts'' => ?_)
  simp only [wp_pure', W.mark, wp_bind', W.pushRef]
  refine ⟨{ g with stack := rest }, ?_, ?_⟩
  · exact State.topJava?_setTop' _ (by rw [(mfS_facts (cA := cA) (cB := cB) (N := N) (M := M) h2 N).2.2.2.2.2.2]; exact htop)
  · rw [State.setTop_setTop]
    exact hq _ _
end MULTI
def V5 (V : Mem) : Mem := fun r i => if r = 10 then (fun j => if j < 14 then 1 else 0) else if r = 11 then (fun _ => 0) else V r i
theorem Ord_5 : ∀ j, j < 5 → ∀ x, Ord[j]? = some x → x.1 ≠ 10 ∧ x.1 ≠ 11 := by
  intro j hj x hx
  have : ∀ j, j < 5 → ∀ x ∈ Ord[j]?, x.1 ≠ 10 ∧ x.1 ≠ 11 := by decide
  exact this j hj x hx
theorem Ord_6 : ∀ j, j < 14 → Ord[6 + j]? = some (11, j) := by decide
theorem mf_row {ad : Nat → Nat → Nat} {B : Nat} (V : Mem) (h : ∀ q, q < 14 → ad 11 q = B + 5 + 1 + q) : (fun j => if j < 14 then Value.ref (B + 5 + 1 + j) else Value.null) = fun j => va_rf (rfN ad (V5 V 10 0) 0 (11, fun _ j => j) j) := by
  funext q
  show _ = va_rf (if V5 V 10 0 q = 0 then none else some (ad 11 q))
  have e1 : V5 V 10 0 q = if q < 14 then 1 else 0 := rfl
  rw [e1]
  by_cases hq : q < 14
  · rw [if_pos hq, if_pos hq, if_neg (by decide), h q hq]
    rfl
  · rw [if_neg hq, if_neg hq, if_pos rfl]
    rfl
theorem ho_multi {Φ : KJ} {cc : ByteArray} {nL : Nat} {own : String} {pc : Nat} {al : List (Nat × AV)} {st : List AV} {V : Mem} {idx d K : Nat} (hR : HRI Φ d K) (hK : 20 ≤ K) (hw0 : Cond.classLink own idx "[[I" ∈ WSU) (hw1 : Cond.arrayClass .int ∈ WSU) (hd : decode cc pc = .ok (.multianewarray idx 2, 4)) (kk : Hq Φ cc nL own (pc + 4) al (aR 10 0 :: st) 20 (V5 V)) : Hq Φ cc nL own pc al (aI 96 :: aI 14 :: st) 5 V := by
  intro p l e R s m args below meth c ad D dA B k0 Qf hf hC H locs ls hP hS hz hk hl
  obtain ⟨hr1, hr2, hr3⟩ := hR p l e R s m args below meth c ad D dA B k0 Qf hf
  have hts := hC.2.2.2.2.1
  have hAd := hC.2.2.2.2.2.2.1
  intro T hT X
  have hpl : e.platform.magicAccessors = ({} : Platform).magicAccessors := by rw [X.admits.platform]
  obtain ⟨comp, cA, kA, f1, -, hkA, hkindA, hnameA⟩ := arrayOverA_spec hC.2.2.2.2.2.2.2.1.2.2.2.2.2.2.2.2.2
  obtain ⟨cB, kB, comp2, g1, hkB, hkindB⟩ := Cond.arrayClass_spec (hts _ hw1)
  have ecb : comp = cB := Option.some.inj (f1.symm.trans g1)
  subst ecb
  obtain ⟨c2, hfcc, hcl⟩ := Cond.classLink_spec hC.2.2.2.1 (hts _ hw0) e.platform hpl
  have eca : cA = c2 := Option.some.inj (hnameA.symm.trans hfcc)
  subst eca
  have hl5 : slen 10 = 14 := rfl
  obtain ⟨hg₁, hwarm₁, hready₁⟩ := State.classEntry (e := e) X.warmed hcl
  have hsz : (T.vm.noted m.cls idx (.cls cA)).classes.size ≤ T.vm.classes.size := by no_record
  generalize T.vm.noted m.cls idx (.cls cA) = vm₁ at hg₁ hwarm₁ hready₁ hsz
  have hal : s.vm.Alike vm₁ := hwarm₁.alike
  obtain ⟨kA₁, hkA₁, heA⟩ := hal.2.2 _ _ hkA
  obtain ⟨kB₁, hkB₁, heB⟩ := hal.2.2 _ _ hkB
  have hm0 := SLT_mono hk
  have es : SLT 20 = SLT 5 + 14 + 14 * 96 := by decide +kernel
  obtain ⟨q1, q2⟩ := hr3 20 hK
  have hTz : T.heap.size = B + 5 := by rw [hT]; exact hz
  have hlA : ¬ (96 : Nat) > e.platform.arrayLengthLimit := by rw [Launch.admits_arrayLengthLimit X.admits]; omega
  have hlN : ¬ (14 : Nat) > e.platform.arrayLengthLimit := by rw [Launch.admits_arrayLengthLimit X.admits]; omega
  have hhA : ¬ (96 : Nat) * componentBytes .int > e.platform.maxHeapBytes := by rw [Launch.admits_maxHeapBytes X.admits]; show ¬ 96 * 4 > 536870912; omega
  have hhN : ¬ (14 : Nat) * componentBytes (.array .int) > e.platform.maxHeapBytes := by rw [Launch.admits_maxHeapBytes X.admits]; show ¬ 14 * 4 > 536870912; omega
  have X₁ := X.noted hwarm₁
  obtain ⟨L, hL, X₂⟩ := mfS_st (U := T.setVm vm₁) (cA := cA) (cB := comp) (N := 14) (M := 96) (h := B + 5) hTz X₁ 14
  obtain ⟨a1, a2, a3, a4, a5, a6, -⟩ := mfS_facts (U := T.setVm vm₁) (cA := cA) (cB := comp) (N := 14) (M := 96) (h := B + 5) hTz 14
  obtain ⟨r1, r2⟩ := X.roomAbove (a := 15) (b := 14 + 14 * 96) (by omega) (by omega)
  have hold : ∀ q, q < B + 5 → (mfS (T.setVm vm₁) (B + 5) cA comp 14 96 14).heap[q]? = H[q]? := fun q hq => by rw [a5 q hq, ← hT]; rfl
  have eA : cA = dA 10 0 := by
    obtain ⟨t, ht⟩ := ty_at (dA := dA) (U := Ord) (r := 10) (i := 0) (n := 14) (ty := .array .int) (o := some (11, fun _ j => j)) (List.mem_of_getElem? (i := 5) rfl) rfl
    exact Option.some.inj (hnameA.symm.trans (hC.2.2.2.2.2.1.2 t _ ht).2)
  have eB : ∀ j, j < 14 → comp = dA 11 j := by
    intro j hj
    obtain ⟨t, ht⟩ := ty_at (dA := dA) (U := Ord) (r := 11) (i := j) (n := 96) (ty := .int) (o := none) (List.mem_of_getElem? (Ord_6 j hj)) rfl
    exact Option.some.inj (g1.symm.trans (hC.2.2.2.2.2.1.2 t _ ht).2)
  have hP1 : va_P D vwCl (wsK ad dA 20 (V5 V)) (mfS (T.setVm vm₁) (B + 5) cA comp 14 96 14).heap := by
    intro j x hx
    obtain ⟨y, y1, y2, rfl⟩ := wk_get hx
    by_cases hj : j < 5
    · have h5 := Ord_5 j hj y y1
      have hv : V5 V y.1 y.2 = V y.1 y.2 := by unfold V5; rw [if_neg h5.1, if_neg h5.2]
      rw [hv]
      have h6 := wk_at (ad := ad) (dA := dA) (k := 5) V y1 hj
      exact (hP.kept (fun k x hx => hold x.1 (by rw [← hz]; exact (hP k x hx).lt))) j _ h6
    · by_cases h5 : j = 5
      · subst h5
        cases y1
        show (mfS (T.setVm vm₁) (B + 5) cA comp 14 96 14).heap[ad 10 0]? = some (vp_cell (dA 10 0) (14, .inr (.inr (.inr (.inr (rfN ad (V5 V 10 0) 0 (11, fun _ j => j)))))))
        rw [hAd 5 (10, 0) rfl, a4, vp_cell_q, mfC, eA, mf_row (ad := ad) V (fun q hq => (hAd _ _ (Ord_6 q hq)).trans (by omega))]
      · obtain ⟨t, rfl⟩ : ∃ t, j = 6 + t := ⟨j - 6, by omega⟩
        have ht : t < 14 := by omega
        cases (Ord_6 t ht).symm.trans y1
        show (mfS (T.setVm vm₁) (B + 5) cA comp 14 96 14).heap[ad 11 t]? = some (vp_cell (dA 11 t) (96, .inl (V5 V 11 t)))
        rw [hAd (6 + t) (11, t) (Ord_6 t ht), show B + (6 + t) = B + 5 + 1 + t by omega, a6 t ht, eB t ht]
        rfl
  have hS1 : va_S (fun q => B ≤ q) s.heap (mfS (T.setVm vm₁) (B + 5) cA comp 14 96 14).heap (locs ++ L) := by
    refine ⟨Nat.le_trans hS.1 (by rw [hz, a1]; omega), fun x q1 q2 => (hold x (by rw [← hz]; exact Nat.lt_of_lt_of_le q1 hS.1)).trans (hS.2.1 x q1 q2), fun q hq => ?_⟩
    rcases List.mem_append.mp hq with h1 | h1
    · exact hS.2.2 q h1
    · rw [hL q h1]
      omega
  have hk9 := kk p l e R s m args below meth c ad D dA B k0 Qf hf hC _ (locs ++ L) ls hP1 hS1 (by rw [a1]) (by omega) hl
  rw [show 20 - k0 = 5 - k0 + 1 + 14 by omega, show SLT 20 - SLT k0 = SLT 5 - SLT k0 + 14 + 14 * 96 by omega] at hk9
  obtain ⟨t2, b1, b2⟩ := hk9 _ rfl X₂
  refine ⟨t2, ?_, b2⟩
  have hdd : decode c.code (F0 m pc ls ((aI 96 :: aI 14 :: st).map (cv ad))).pc = .ok (.multianewarray idx 2, 4) := by rw [hC.2.1]; exact hd
  refine Steps.instr (c := c) X.here ?_
  rw [hdd, hC.1]
  show wp (multianewarray.sem idx 2) _ _ e _ _ (T.setTop (F0 m pc ls (.int 96 :: .int 14 :: st.map (cv ad))))
  refine wp_multi (vm₁ := vm₁) (h := B + 5) (cA := cA) (cB := comp) (N := 14) (M := 96) (n := 14) (x := 96) (kA := kA₁) (kB := kB₁) (comp := comp2) (rest := st.map (cv ad)) X.here.top hg₁ hsz rfl hTz rfl (by decide) (by decide) rfl (by decide) hkA₁ (by rw [heA]; exact hkindA) hkB₁ (by rw [heB]; exact hkindB) hlA hhA hlN hhN (by omega) (by omega) (fun d' acts' => ?_)
  intro acts
  have htop : (mfS (T.setVm vm₁) (B + 5) cA comp 14 96 14).topJava?.isSome := X₂.here.top
  have ea : ad 10 0 = B + 5 := hAd 5 (10, 0) rfl
  have e9 : (aR 10 0 :: st).map (cv ad) = .ref (B + 5) :: st.map (cv ad) := by rw [← ea]; rfl
  rw [e9] at b1
  simp [jvm, htop]
  exact b1
