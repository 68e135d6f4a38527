/-! ===== values, memory, shapes: what a state of the system is ===== -/
abbrev vwCl : List vw_C := [(RX0, TX0, 5), (RX1, TX1, 9), (RX2, TX2, 6), (RX3, TX3, 3), (RX4, TX4, 4), (RX5, TX5, 16), (RX6, TX6, 13), (RX7, TX7, 33)]
abbrev AV : Type := Int32 ⊕ ((Nat × Nat) ⊕ (Int64 ⊕ Unit))
abbrev Mem : Type := Nat → Nat → Nat → Int32
abbrev aI (x : Int32) : AV := .inl x
abbrev aR (r i : Nat) : AV := .inr (.inl (r, i))
abbrev aL (x : Int64) : AV := .inr (.inr (.inl x))
abbrev aN : AV := .inr (.inr (.inr ()))
def cv (ad : Nat → Nat → Nat) : AV → Value
  | .inl x => .int x
  | .inr (.inl q) => .ref (ad q.1 q.2)
  | .inr (.inr (.inl x)) => .long x
  | .inr (.inr (.inr _)) => .null
def isW : AV → Bool
  | .inr (.inr (.inl _)) => true
  | _ => false
theorem cv_cat (ad : Nat → Nat → Nat) (v : AV) : ((cv ad v).category == 2) = isW v := by
  rcases v with x | ⟨q⟩ | x | x <;> rfl
def ma (V : Mem) (r i : Nat) (f : Nat → Int32) : Mem := fun r' i' => if r' = r ∧ i' = i then f else V r' i'
def mu (V : Mem) (r i k : Nat) (x : Int32) : Mem := ma V r i (upd (V r i) k x)
theorem ma_same (V : Mem) (r i : Nat) (f : Nat → Int32) : ma V r i f r i = f := if_pos ⟨rfl, rfl⟩
theorem ma_ne {V : Mem} {r i r' i' : Nat} {f : Nat → Int32} (h : ¬ (r' = r ∧ i' = i)) : ma V r i f r' i' = V r' i' := if_neg h
abbrev Shp : Type := (Nat × List (Option (Nat × (Nat → Nat)))) ⊕ (Nat × FieldType × Option (Nat × (Nat → Nat → Nat)))
def sh : Nat → Shp := fun r => match r with
  | 0 => .inl (6, [some (1, fun _ => 0), some (2, fun _ => 0), some (2, fun _ => 1), some (2, fun _ => 2), none, some (17, fun _ => 0), none, some (6, fun _ => 0), some (19, fun _ => 0), some (20, fun _ => 0), some (21, fun _ => 0), none, some (22, fun _ => 0)])
  | 1 => .inl (0, [some (7, fun _ => 0), some (8, fun _ => 0), some (9, fun _ => 0), some (10, fun _ => 0), some (12, fun _ => 0)])
  | 2 => .inl (5, [some (1, fun _ => 0), some (13, fun i => i), some (14, fun i => i), some (15, fun i => i), some (16, fun i => i), none, none, none, none, none, none, none, none, none, none, none])
  | 3 => .inl (2, [none, none, none, none, none, none])
  | 4 => .inl (3, [none, none, some (23, fun i => i)])
  | 5 => .inl (4, [none, none, some (3, fun i => 24 + i), some (4, fun i => 4 + i)])
  | 6 => .inl (1, [some (17, fun _ => 0), some (18, fun _ => 0), none, none, none, none, none, none, none])
  | 7 => .inr (14, .int, none)
  | 8 => .inr (14, .int, none)
  | 9 => .inr (14, .int, none)
  | 10 => .inr (14, (.array .int), some (11, fun _ j => j))
  | 11 => .inr (96, .int, none)
  | 12 => .inr (96, .int, none)
  | 13 => .inr (8, (.object "RoofSnow$Roof"), some (3, fun i j => 8 * i + j))
  | 14 => .inr (24, .int, none)
  | 15 => .inr (24, .int, none)
  | 16 => .inr (3, .int, none)
  | 17 => .inr (96, .int, none)
  | 18 => .inr (96, .int, none)
  | 19 => .inr (4, (.object "RoofSnow$Sheet"), some (4, fun _ j => j))
  | 20 => .inr (5, (.object "RoofSnow$Slot"), some (5, fun _ j => j))
  | 21 => .inr (60, .int, none)
  | 22 => .inr (8, .int, none)
  | 23 => .inr (24, .int, none)
  | 24 => .inl (7, [some (25, fun _ => 0), some (26, fun _ => 0), some (27, fun _ => 0), none, some (28, fun _ => 0), some (29, fun _ => 0), none, none, none, none, none, none, none, some (30, fun _ => 0), some (31, fun _ => 0), some (32, fun _ => 0), none, none, some (33, fun _ => 0), none, some (34, fun _ => 0), some (35, fun _ => 0), some (36, fun _ => 0), some (37, fun _ => 0), some (38, fun _ => 0), some (39, fun _ => 0), some (40, fun _ => 0), some (41, fun _ => 0), some (42, fun _ => 0), some (43, fun _ => 0), some (44, fun _ => 0), some (45, fun _ => 0), none])
  | 25 => .inr (1479, .int, none)
  | 26 => .inr (1479, .int, none)
  | 27 => .inr (1479, .int, none)
  | 28 => .inr (107, .int, none)
  | 29 => .inr (96, .int, none)
  | 30 => .inr (13, .char, none)
  | 31 => .inr (4, .int, none)
  | 32 => .inr (96, .int, none)
  | 33 => .inr (96, .int, none)
  | 34 => .inr (10, .boolean, none)
  | 35 => .inr (96, .int, none)
  | 36 => .inr (4, .int, none)
  | 37 => .inr (4, .int, none)
  | 38 => .inr (4, .int, none)
  | 39 => .inr (96, .int, none)
  | 40 => .inr (5, .int, none)
  | 41 => .inr (5, .int, none)
  | 42 => .inr (5, .int, none)
  | 43 => .inr (120, .int, none)
  | 44 => .inr (24, .int, none)
  | 45 => .inr (60, .int, none)
  | _ => .inr (0, .int, none)
def cnt : Nat → Nat := fun r => match r with
  | 2 => 3
  | 3 => 29
  | 4 => 9
  | 5 => 5
  | 11 => 14
  | 13 => 3
  | 14 => 3
  | 15 => 3
  | 16 => 3
  | 23 => 9
  | _ => 1
def fv1 (ad : Nat → Nat → Nat) (f : Nat → Int32) (i k : Nat) : Option (Nat × (Nat → Nat)) → Value
  | none => Value.int (f k)
  | some q => Value.ref (ad q.1 (q.2 i))
def fvs (ad : Nat → Nat → Nat) (f : Nat → Int32) (i : Nat) (ks : List (Option (Nat × (Nat → Nat)))) : List Value := ks.mapIdx (fun k o => fv1 ad f i k o)
def cE (ad : Nat → Nat → Nat) (dA : Nat → Nat → ClassId) (f : Nat → Int32) (r i : Nat) : va_E := match sh r with
  | .inl q => .inr (q.1, fvs ad f i q.2)
  | .inr (n, _, none) => .inl (dA r i, n, .inl f)
  | .inr (n, _, some q) => .inl (dA r i, n, .inr (.inr (.inr (.inr (fun j => some (ad q.1 (q.2 i j)))))))
abbrev Uv : Type := List (Nat × Nat)
def wsU (ad : Nat → Nat → Nat) (dA : Nat → Nat → ClassId) (U : Uv) (V : Mem) : va_W := U.map (fun q => (ad q.1 q.2, cE ad dA (V q.1 q.2) q.1 q.2))
def tyU (dA : Nat → Nat → ClassId) (U : Uv) : List (ClassId × FieldType) := U.filterMap (fun q => match sh q.1 with | .inl _ => none | .inr s => some (dA q.1 q.2, s.2.1))
def AU (ad : Nat → Nat → Nat) (U : Uv) : Nat → Prop := fun q => ∃ x ∈ U, q = ad x.1 x.2
def Inj (ad : Nat → Nat → Nat) (U : Uv) : Prop := ∀ (i j : Nat) (x y : Nat × Nat), U[i]? = some x → U[j]? = some y → ad x.1 x.2 = ad y.1 y.2 → i = j
theorem ws_at {ad : Nat → Nat → Nat} {dA : Nat → Nat → ClassId} {U : Uv} (V : Mem) {r i : Nat} (h : (r, i) ∈ U) : ∃ p : Nat, U[p]? = some (r, i) ∧ (wsU ad dA U V)[p]? = some (ad r i, cE ad dA (V r i) r i) := by
  obtain ⟨p, hp⟩ := List.getElem?_of_mem h
  exact ⟨p, hp, by rw [wsU, List.getElem?_map, hp]; rfl⟩
theorem ty_at {dA : Nat → Nat → ClassId} {U : Uv} {r i n : Nat} {ty : FieldType} {o : Option (Nat × (Nat → Nat → Nat))} (h : (r, i) ∈ U) (hs : sh r = .inr (n, ty, o)) : ∃ t : Nat, (tyU dA U)[t]? = some (dA r i, ty) := by
  apply List.getElem?_of_mem
  refine List.mem_filterMap.mpr ⟨(r, i), h, ?_⟩
  simp only [hs]
theorem ws_D {ad : Nat → Nat → Nat} {dA : Nat → Nat → ClassId} {U : Uv} (V : Mem) (h : Inj ad U) : va_D (AU ad U) (wsU ad dA U V) := by
  have key : ∀ (k : Nat) (q : Nat × va_E), (wsU ad dA U V)[k]? = some q → ∃ x, U[k]? = some x ∧ q.1 = ad x.1 x.2 := by
    intro k q hk
    rw [wsU, List.getElem?_map] at hk
    cases hu : U[k]? with
    | none => rw [hu] at hk; cases hk
    | some x => rw [hu] at hk; cases hk; exact ⟨x, rfl, rfl⟩
  refine ⟨fun i j p q hi hj hpq => ?_, fun k q hk => ?_⟩
  · obtain ⟨x, h1, h2⟩ := key i p hi
    obtain ⟨y, h3, h4⟩ := key j q hj
    exact h i j x y h1 h3 (by rw [← h2, ← h4]; exact hpq)
  · obtain ⟨x, h1, h2⟩ := key k q hk
    exact ⟨x, List.mem_of_getElem? h1, h2⟩
theorem ws_set {ad : Nat → Nat → Nat} {dA : Nat → Nat → ClassId} {U : Uv} {V : Mem} {p r i : Nat} {f : Nat → Int32} {e : va_E} (hI : Inj ad U) (hp : U[p]? = some (r, i)) (he : cE ad dA f r i = e) : (wsU ad dA U V).set p (ad r i, e) = wsU ad dA U (ma V r i f) := by
  apply List.ext_getElem?
  intro k
  by_cases hk : k = p
  · subst hk
    have hl : k < (wsU ad dA U V).length := by rw [wsU, List.length_map]; exact (List.getElem?_eq_some_iff.mp hp).1
    rw [List.getElem?_set_self hl, wsU, List.getElem?_map, hp]
    show some (ad r i, e) = some (ad r i, cE ad dA (ma V r i f r i) r i)
    rw [ma_same, he]
  · rw [List.getElem?_set_ne (Ne.symm hk), wsU, wsU, List.getElem?_map, List.getElem?_map]
    cases hu : U[k]? with
    | none => rfl
    | some x =>
      have hne : ¬ (x.1 = r ∧ x.2 = i) := fun h => hk (hI k p x (r, i) hu hp (by rw [h.1, h.2]))
      show some (ad x.1 x.2, cE ad dA (V x.1 x.2) x.1 x.2) = some (ad x.1 x.2, cE ad dA (ma V r i f x.1 x.2) x.1 x.2)
      rw [ma_ne hne]
theorem fvs_get {ad : Nat → Nat → Nat} {f : Nat → Int32} {i k : Nat} {ks : List (Option (Nat × (Nat → Nat)))} {o : Option (Nat × (Nat → Nat))} (h : ks[k]? = some o) : (fvs ad f i ks)[k]? = some (fv1 ad f i k o) := by
  rw [fvs, List.getElem?_mapIdx, h]; rfl
theorem fvs_len {ad : Nat → Nat → Nat} {f : Nat → Int32} {i : Nat} {ks : List (Option (Nat × (Nat → Nat)))} : (fvs ad f i ks).length = ks.length := by
  rw [fvs, List.length_mapIdx]
theorem fvs_set {ad : Nat → Nat → Nat} {f : Nat → Int32} {i k : Nat} {x : Int32} {ks : List (Option (Nat × (Nat → Nat)))} (h : ks[k]? = some none) : fvs ad (upd f k x) i ks = (fvs ad f i ks).set k (.int x) := by
  apply List.ext_getElem?
  intro j
  by_cases hj : j = k
  · subst hj
    have hl : j < (fvs ad f i ks).length := by rw [fvs_len]; exact (List.getElem?_eq_some_iff.mp h).1
    rw [List.getElem?_set_self hl, fvs_get h]
    simp [upd, fv1]
  · rw [List.getElem?_set_ne (Ne.symm hj), fvs, fvs, List.getElem?_mapIdx, List.getElem?_mapIdx]
    cases hk : ks[j]? with
    | none => rfl
    | some o =>
      cases o with
      | none => simp [upd, hj, fv1]
      | some q => rfl
def WSU : List Cond := lw_tbl.filter goodWord
theorem wsu_of {w : Cond} (i : Nat) (h : lw_tbl[i]? = some w) (hg : goodWord w = true) : w ∈ WSU := List.mem_filter.mpr ⟨List.mem_of_getElem? h, hg⟩
theorem wsu_good {ws : List Cond} (h : ∀ w ∈ ws, w ∈ WSU) : GoodIn WSU ws := fun w hw => ⟨h w hw, good_of_word (List.mem_filter.mp (h w hw)).2⟩
abbrev MI : Type := MethodName × ByteArray × Nat × Option FieldType
def FG (own : String) (idx r k : Nat) (o : Option (Nat × (Nat → Nat))) : Prop := ∃ (ci N : Nat) (C : String) (T : u_T) (ks : List (Option (Nat × (Nat → Nat)))), sh r = .inl (ci, ks) ∧ vwCl[ci]? = some (C, T, N) ∧ k < N ∧ ks[k]? = some o ∧ (∀ w ∈ u_ws C T N, w ∈ WSU) ∧ Cond.fieldLink own idx (T k).1 (T k).2.1 (T k).2.2.1 ∈ WSU
def FP (own : String) (idx r k : Nat) (ty : FieldType) : Prop := ∃ (ci N : Nat) (C : String) (T : u_T) (ks : List (Option (Nat × (Nat → Nat)))) (ty0 : Nat → FieldType), sh r = .inl (ci, ks) ∧ vwCl[ci]? = some (C, T, N) ∧ k < N ∧ ks[k]? = some none ∧ (∀ w ∈ u_ws C T N, w ∈ WSU) ∧ Cond.fieldLink own idx (T k).1 (T k).2.1 (T k).2.2.1 ∈ WSU ∧ (∀ k, k < N → parseFieldDescriptor (T k).2.2.1 = some (ty0 k)) ∧ (∀ a, a < N → ∀ b, b < N → a ≠ b → (T a).2.1 ≠ (T b).2.1) ∧ (T k).2.2.2 = false ∧ parseFieldDescriptor (T k).2.2.1 = some ty
/-- what the tables say of a method that is called -/
def MV (M : MI) (n : Nat) : Prop := Cond.code M.1 M.2.1 M.2.2.1 M.2.2.2 ∈ WSU ∧ Cond.initialized M.1.cls ∈ WSU ∧ (M.1.cls ≠ "java/lang/invoke/MethodHandle" ∧ M.1.cls ≠ "java/lang/invoke/VarHandle" ∧ (parseMethodDescriptor M.1.desc).map (fun d => d.parameters.length) = some n) ∧ M.2.2.1 ≤ 40 ∧ Cond.instanceMethod M.1 ∈ WSU ∧ Cond.selects M.1.cls M.1 M.1 ∈ WSU
def MS (M : MI) (n : Nat) : Prop := Cond.code M.1 M.2.1 M.2.2.1 M.2.2.2 ∈ WSU ∧ Cond.initialized M.1.cls ∈ WSU ∧ (M.1.cls ≠ "java/lang/invoke/MethodHandle" ∧ M.1.cls ≠ "java/lang/invoke/VarHandle" ∧ (parseMethodDescriptor M.1.desc).map (fun d => d.parameters.length) = some n) ∧ M.2.2.1 ≤ 40 ∧ Cond.static M.1 ∈ WSU
