/-! ===== the law: its start ===== -/
def ordIx (r i : Nat) : Nat := (Ord.findIdx? (fun x => x == (r, i))).getD 0
theorem ordIx_ok : ∀ j, j < 117 → ((match Ord[j]? with | some x => ordIx x.1 x.2 == j && decide (x.1 < 46) | none => false) = true) := by decide +kernel
def tys7 : List FieldType := [.int, .char, .boolean, .array .int, .object "RoofSnow$Roof", .object "RoofSnow$Sheet", .object "RoofSnow$Slot"]
theorem Ord_tys : (Ord.all (fun x => match sh x.1 with | .inl _ => true | .inr q => tys7.contains q.2.1)) = true := by decide +kernel
def adL (B a60 : Nat) (adK adV : Nat → Nat) (t63 b : Nat) : Nat → Nat → Nat := fun r i => if r = 60 then a60 else if r = 61 then adK i else if r = 62 then adV i else if r = 63 then t63 else if r = 64 then b else B + ordIx r i
theorem adL_O {B a60 t63 b : Nat} {adK adV : Nat → Nat} : AdO (adL B a60 adK adV t63 b) B := by
  intro j x hx
  have h := ordIx_ok j (Ord_lt hx)
  rw [hx] at h
  have h : (ordIx x.1 x.2 == j && decide (x.1 < 46)) = true := h
  rw [Bool.and_eq_true, beq_iff_eq, decide_eq_true_eq] at h
  unfold adL
  rw [if_neg (by omega), if_neg (by omega), if_neg (by omega), if_neg (by omega), if_neg (by omega), h.1]
def strT (i : Nat) : Term := .string "RoofSnow$Reader" (100 + 2 * i)
abbrev gvl : List Cond := flatC (Jvm.Cond.and given_1 narrow_1)
theorem st_ex : ∀ i, i < 6 → Cond.exactly (strT i) "java/lang/String" ∈ gvl := by decide +kernel
theorem st_co : ∀ i, i < 6 → Cond.eq (.field (strT i) "java/lang/String" "coder" "B") (.int 0) ∈ gvl := by decide +kernel
theorem st_ar : ∀ i, i < 6 → Cond.arrayOf (.field (strT i) "java/lang/String" "value" "[B") .byte ∈ gvl := by decide +kernel
theorem st_le : ∀ i, i < 6 → Cond.eq (.length (.field (strT i) "java/lang/String" "value" "[B")) (.int (Int32.ofNat (lenS.getD i 0))) ∈ gvl := by decide +kernel
theorem st_el : ∀ i, i < 6 → ∀ j, j < lenS.getD i 0 → Cond.eq (.elem (.field (strT i) "java/lang/String" "value" "[B") (.int (Int32.ofNat j))) (.int ((bytS.getD i []).getD j 0)) ∈ gvl := by decide +kernel
theorem st_ne : ∀ i, i < 6 → ∀ j, j < 6 → i ≠ j → Cond.not (Cond.eq (strT i) (strT j)) ∈ gvl ∨ Cond.not (Cond.eq (strT j) (strT i)) ∈ gvl := by decide +kernel
def abT : Term := .static "RoofSnow" "ABOVE" "[I"
def abJ : Nat → Int32 := fun j => match j with | 0 => -1 | 1 => 0 | 2 => 0 | 3 => 1 | 4 => 2 | _ => 0
theorem abF_I (j : Nat) (h : j < 6) : abF j = .int (abJ j) := by
  match j, h with
  | 0, _ => rfl
  | 1, _ => rfl
  | 2, _ => rfl
  | 3, _ => rfl
  | 4, _ => rfl
  | 5, _ => rfl
theorem ab_el : ∀ j, j < 6 → Cond.eq (.elem abT (.int (Int32.ofNat j))) (.int (abJ j)) ∈ gvl := by decide +kernel
theorem lw_D {s : State} {args : Array Value} (hts : ∀ w ∈ lw_tbl, w.before args s = true) (hw : ∀ w ∈ WSU, w.before args s = true) : ∃ D : va_G, ∀ (c : Nat) (q : vw_C), vwCl[c]? = some q → u_Kn s q.1 q.2.1 q.2.2 (D.1 c) (D.2 c) := by
  have h0 : ∀ c : Nat, ∃ z : ClassId × (Nat → Nat), ∀ q : vw_C, vwCl[c]? = some q → u_Kn s q.1 q.2.1 q.2.2 z.1 z.2 := by
    intro c
    match c with
    | 0 =>
      obtain ⟨a, i, h⟩ := u_known (C := RX0) (T := TX0) (N := 5) (n := 5) hw inU0 (hts _ (List.mem_of_getElem? (i := 83) (by decide +kernel)))
      exact ⟨(a, i), fun q hq => by cases hq; exact h⟩
    | 1 =>
      obtain ⟨a, i, h⟩ := u_known (C := RX1) (T := TX1) (N := 9) (n := 9) hw inU1 (hts _ (List.mem_of_getElem? (i := 218) (by decide +kernel)))
      exact ⟨(a, i), fun q hq => by cases hq; exact h⟩
    | 2 =>
      obtain ⟨a, i, h⟩ := u_known (C := RX2) (T := TX2) (N := 6) (n := 6) hw inU2 (hts _ (List.mem_of_getElem? (i := 118) (by decide +kernel)))
      exact ⟨(a, i), fun q hq => by cases hq; exact h⟩
    | 3 =>
      obtain ⟨a, i, h⟩ := u_known (C := RX3) (T := TX3) (N := 3) (n := 3) hw inU3 (hts _ (List.mem_of_getElem? (i := 261) (by decide +kernel)))
      exact ⟨(a, i), fun q hq => by cases hq; exact h⟩
    | 4 =>
      obtain ⟨a, i, h⟩ := u_known (C := RX4) (T := TX4) (N := 4) (n := 4) hw inU4 (hts _ (List.mem_of_getElem? (i := 279) (by decide +kernel)))
      exact ⟨(a, i), fun q hq => by cases hq; exact h⟩
    | 5 =>
      obtain ⟨a, i, h⟩ := u_known (C := RX5) (T := TX5) (N := 16) (n := 16) hw inU5 (hts _ (List.mem_of_getElem? (i := 110) (by decide +kernel)))
      exact ⟨(a, i), fun q hq => by cases hq; exact h⟩
    | 6 =>
      obtain ⟨a, i, h⟩ := u_known (C := RX6) (T := TX6) (N := 13) (n := 13) hw inU6 (hts _ (List.mem_of_getElem? (i := 75) (by decide +kernel)))
      exact ⟨(a, i), fun q hq => by cases hq; exact h⟩
    | 7 =>
      obtain ⟨a, i, h⟩ := u_known (C := RX7) (T := TX7) (N := 33) (n := 33) hw inU7 (hts _ (List.mem_of_getElem? (i := 918) (by decide +kernel)))
      exact ⟨(a, i), fun q hq => by cases hq; exact h⟩
    | c + 8 =>
      refine ⟨(0, fun _ => 0), fun q hq => ?_⟩
      have : vwCl[c + 8]? = none := List.getElem?_eq_none (by show 8 ≤ c + 8; omega)
      rw [this] at hq
      cases hq
  obtain ⟨f, hf⟩ := Classical.axiomOfChoice h0
  exact ⟨(fun c => (f c).1, fun c => (f c).2), hf⟩
theorem lw_prim {s : State} {args : Array Value} {ty : FieldType} (h : (Cond.arrayClass ty).before args s = true) : ∃ cA, s.vm.findClass ("[" ++ ty.toString) = some cA ∧ ArrOfT s cA ty := by
  obtain ⟨c, k, comp, h1, h2, h3⟩ := Cond.arrayClass_spec h
  exact ⟨c, h1, fun n z => ⟨fun k h => (by cases h), k, h2, comp, h3⟩⟩
theorem lw_obj {s : State} {args : Array Value} {C : String} (h : (Cond.arrayOver (.object C)).before args s = true) : ∃ cA, s.vm.findClass ("[" ++ (FieldType.object C).toString) = some cA ∧ ArrOfT s cA (.object C) ∧ va_RA s cA (.object C) := by
  obtain ⟨comp, c, k, h1, h2, h3, h4, h5⟩ := Cond.arrayOver_spec h
  exact ⟨c, h5, fun n z => ⟨fun k h => (by cases h), k, h3, comp, h4⟩, k, comp, h3, h4, h1, h5⟩
theorem lw_tys {s : State} {args : Array Value} (hts : ∀ w ∈ lw_tbl, w.before args s = true) : ∀ ty ∈ tys7, ∃ cA, s.vm.findClass ("[" ++ ty.toString) = some cA ∧ ArrOfT s cA ty ∧ va_RA s cA ty := by
  intro ty hty
  simp only [tys7, List.mem_cons, List.not_mem_nil, or_false] at hty
  rcases hty with rfl | rfl | rfl | rfl | rfl | rfl | rfl
  · obtain ⟨c, h1, h2⟩ := lw_prim (ty := .int) (hts _ (List.mem_of_getElem? (i := 108) (by decide +kernel)))
    exact ⟨c, h1, h2, h1⟩
  · obtain ⟨c, h1, h2⟩ := lw_prim (ty := .char) (hts _ (List.mem_of_getElem? (i := 1023) (by decide +kernel)))
    exact ⟨c, h1, h2, h1⟩
  · obtain ⟨c, h1, h2⟩ := lw_prim (ty := .boolean) (hts _ (List.mem_of_getElem? (i := 1024) (by decide +kernel)))
    exact ⟨c, h1, h2, h1⟩
  · obtain ⟨comp, c, k, h1, h2, h3, h4, h5⟩ := arrayOverA_spec (t := .int) (hts _ (List.mem_of_getElem? (i := 89) (by decide +kernel)))
    exact ⟨c, h5, fun n z => ⟨fun k h => (by cases h), k, h3, comp, h4⟩, h5⟩
  · exact lw_obj (hts _ (List.mem_of_getElem? (i := 116) (by decide +kernel)))
  · exact lw_obj (hts _ (List.mem_of_getElem? (i := 258) (by decide +kernel)))
  · exact lw_obj (hts _ (List.mem_of_getElem? (i := 260) (by decide +kernel)))
theorem lw_NW {s : State} {args : Array Value} (hts : ∀ w ∈ lw_tbl, w.before args s = true) : NW s := by
  refine ⟨(va_Nw.of rfl (hts _ (List.mem_of_getElem? (i := 84) (by decide +kernel)))), (va_Nw.of rfl (hts _ (List.mem_of_getElem? (i := 119) (by decide +kernel)))), (va_Nw.of rfl (hts _ (List.mem_of_getElem? (i := 262) (by decide +kernel)))), (va_Nw.of rfl (hts _ (List.mem_of_getElem? (i := 280) (by decide +kernel)))), (va_Nw.of rfl (hts _ (List.mem_of_getElem? (i := 285) (by decide +kernel)))), (va_Nw.of rfl (hts _ (List.mem_of_getElem? (i := 287) (by decide +kernel)))), va_AO.of (hts _ (List.mem_of_getElem? (i := 116) (by decide +kernel))), va_AO.of (hts _ (List.mem_of_getElem? (i := 258) (by decide +kernel))), va_AO.of (hts _ (List.mem_of_getElem? (i := 260) (by decide +kernel))), ?_⟩
  exact over_moved (Vm.Alike.refl s.vm) (hts _ (List.mem_of_getElem? (i := 89) (by decide +kernel)))
def dAL (s : State) : Nat → Nat → ClassId := fun r _ => match sh r with | .inl _ => 0 | .inr q => (s.vm.findClass ("[" ++ q.2.1.toString)).getD 0
theorem lw_K {s : State} {args : Array Value} {D : va_G} (hts : ∀ w ∈ lw_tbl, w.before args s = true) (hD : ∀ (c : Nat) (q : vw_C), vwCl[c]? = some q → u_Kn s q.1 q.2.1 q.2.2 (D.1 c) (D.2 c)) : va_K D vwCl (tyU (dAL s) Ord) s := by
  refine ⟨hD, fun k q hq => ?_⟩
  obtain ⟨x, hx, hxq⟩ := List.mem_filterMap.mp (List.mem_of_getElem? hq)
  have h1 := List.all_eq_true.mp Ord_tys x hx
  cases hs : sh x.1 with
  | inl z => simp only [hs] at hxq; cases hxq
  | inr z =>
    simp only [hs] at hxq h1
    cases hxq
    obtain ⟨cA, c1, c2, c3⟩ := lw_tys hts z.2.1 (List.contains_iff_mem.mp h1)
    have e1 : dAL s x.1 x.2 = cA := by
      unfold dAL
      rw [hs]
      show (s.vm.findClass ("[" ++ z.2.1.toString)).getD 0 = cA
      rw [c1]
      rfl
    rw [e1]
    exact ⟨c2, c3⟩
theorem lw_Fz {s : State} {b : Nat} (hts : ∀ w ∈ lw_tbl, w.before #[Value.ref b] s = true) (hgv : (Jvm.Cond.and given_1 narrow_1).before #[Value.ref b] s = true) : ∃ (a60 : Nat) (adK adV : Nat → Nat) (t63 : Nat), Fz (adL s.heap.size a60 adK adV t63 b) (fun q => s.heap.size ≤ q) s s.heap := by
  have hs := flat_of_before _ hgv
  have hA : ∀ a : Nat, a < s.heap.size → ¬ (fun q => s.heap.size ≤ q) a := fun a h => Nat.not_le.mpr h
  obtain ⟨a60, ht, hT⟩ := va_Tof (tm := abT) (ty := .int) (N := 6) (f := abF) (by decide) (hs (Cond.arrayOf abT .int) (by decide +kernel)) (va_eqt (hs (Cond.eq (.length abT) (.int (Int32.ofNat 6))) (by decide +kernel))) (fun j hj => by rw [abF_I j hj]; exact va_eqt (hs _ (ab_el j hj))) hA
  have hZ := va_Zof (hts _ (List.mem_of_getElem? (i := 408) (by decide +kernel))) (hts _ (List.mem_of_getElem? (i := 59) (by decide +kernel))) ht hA
  obtain ⟨adK, adV, hS, hE⟩ := vk_Sof (N := 6) (tm := strT) (len := lenS) (byt := bytS) (by decide) (fun i hi => hs _ (st_ex i hi)) (fun i hi => hs _ (st_co i hi)) (fun i hi => hs _ (st_ar i hi)) (fun i hi => hs _ (st_le i hi)) (fun i hi j hj => hs _ (st_el i hi j hj)) (fun i j hi hj hne => (st_ne i hi j hj hne).imp (fun z => hs _ z) (fun z => hs _ z)) hA
  have hZ2 := va_Zof (hts _ (List.mem_of_getElem? (i := 669) (by decide +kernel))) (hts _ (List.mem_of_getElem? (i := 69) (by decide +kernel))) (va_eqt (hs (Cond.eq (.static "java/lang/String" "COMPACT_STRINGS" "Z") (.int 1)) (by decide +kernel))) hA
  have hq := va_Zqof (hts _ (List.mem_of_getElem? (i := 685) (by decide +kernel))) (hts _ (List.mem_of_getElem? (i := 71) (by decide +kernel))) (hs (Cond.isRef (.static "jdk/internal/util/Preconditions" "SIOOBE_FORMATTER" "Ljava/util/function/BiFunction;")) (by decide +kernel)) hA
  have hr : ∃ t63 : Nat, va_Z "jdk/internal/util/Preconditions" "SIOOBE_FORMATTER" "Ljava/util/function/BiFunction;" .null (fun q => s.heap.size ≤ q) s s.heap ∨ va_Z "jdk/internal/util/Preconditions" "SIOOBE_FORMATTER" "Ljava/util/function/BiFunction;" (.ref t63) (fun q => s.heap.size ≤ q) s s.heap := by
    rcases hq with h | ⟨t, h⟩
    · exact ⟨0, Or.inl h⟩
    · exact ⟨t, Or.inr h⟩
  obtain ⟨t63, hr⟩ := hr
  refine ⟨a60, adK, adV, t63, hZ, hT, hS, hZ2, hr, vk_R.of (hts _ (List.mem_of_getElem? (i := 653) (by decide +kernel))) (hE 0 (by decide)), vk_R.of (hts _ (List.mem_of_getElem? (i := 654) (by decide +kernel))) (hE 1 (by decide)), vk_R.of (hts _ (List.mem_of_getElem? (i := 655) (by decide +kernel))) (hE 2 (by decide)), vk_R.of (hts _ (List.mem_of_getElem? (i := 735) (by decide +kernel))) (hE 3 (by decide)), vk_R.of (hts _ (List.mem_of_getElem? (i := 736) (by decide +kernel))) (hE 4 (by decide)), vk_R.of (hts _ (List.mem_of_getElem? (i := 737) (by decide +kernel))) (hE 5 (by decide)), va_Nw.of rfl (hts _ (List.mem_of_getElem? (i := 407) (by decide +kernel)))⟩
theorem whole_start {p : Program} {e : Env} {s : State} {m : MethodId} {below : List Frame} {meth : Method} {c : Code} (l : Launch) (hflags : l.flags = flags0) {b L : Nat} {xs : Nat → Int32} (hL : L ≤ 384) (C0 : lw_At p s m meth c b L xs) : W p l e room_1 s m #[Value.ref b] below meth c s.heap [] 0 0 (lw_Z below #[Value.ref b] s) (entryFrame m ([Value.ref b] : List Value).toArray 4) := by
  obtain ⟨hx, hb, hret, hml, hown, hts, hX, hbl, hlk, hgv⟩ := C0
  have hw : ∀ w ∈ WSU, w.before #[Value.ref b] s = true := fun w h => hts w (List.mem_filter.mp h).1
  obtain ⟨D, hD⟩ := lw_D hts hw
  obtain ⟨a60, adK, adV, t63, hF⟩ := lw_Fz hts hgv
  rw [lg_entry_eq]
  have hl := lv_entry (n := 4) [Value.ref b] (Nat.le_of_ble_eq_true rfl)
  have hP0 : va_P D vwCl (wsK (adL s.heap.size a60 adK adV t63 b) (dAL s) 0 V0) s.heap := by
    intro k q hq
    obtain ⟨x, -, hk, -⟩ := wk_get hq
    exact absurd hk (by omega)
  exact law_make hL p l e room_1 s m #[Value.ref b] below meth c (adL s.heap.size a60 adK adV t63 b) D (dAL s) s.heap.size 0 _ ⟨rfl, rfl, rfl, rfl, hret, hlk, rfl, rfl, hX, hbl, hF⟩
    ⟨hx, hb, hml, hown, hw, lw_K hts hD, adL_O, lw_NW hts, rfl⟩ s.heap [] _ hP0 va_S.rf rfl (Nat.le_refl 0) hl
