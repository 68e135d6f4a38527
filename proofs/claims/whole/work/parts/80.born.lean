/-! ===== behind the making: the two worlds as the walks know them ===== -/
def V0 : Mem := fun _ _ _ => 0
def Vf : Mem := fX7 (ma (fX6 (ma V0 0 0 (fun _ => 0))) 24 0 (fun _ => 0))
def okR (r : Nat) (f : Nat → Int32) : Bool := match sh r with
  | .inl q => (List.range q.2.length).all (fun k => match q.2[k]? with | some (some _) => f k != 0 | _ => true)
  | .inr (_, _, none) => true
  | .inr (n, _, some _) => (List.range n).all (fun j => f j != 0)
theorem Vf_ok : (UA.all (fun x => okR x.1 (Vf x.1 x.2))) = true := by decide +kernel
theorem UA_Ord : (UA.all (fun x => Ord.contains x)) = true := by decide +kernel
theorem nd_A : ∀ a, a < 117 → ∀ b, b < 117 → UA[a]? = UA[b]? → a = b := by decide +kernel
theorem cEN_at {ad : Nat → Nat → Nat} {dA : Nat → Nat → ClassId} {D : va_G} {a r i : Nat} {f : Nat → Int32} {H : Heap} (h : okR r f = true) (hv : va_at D vwCl (a, cEN ad dA f r i) H) : va_at D vwCl (a, cE ad dA f r i) H := by
  unfold okR at h
  unfold cEN at hv
  unfold cE
  split at hv
  · rename_i q hq
    rw [hq] at h ⊢
    have : fvsN ad f i q.2 = fvs ad f i q.2 := by
      apply List.ext_getElem?
      intro k
      unfold fvsN fvs
      rw [List.getElem?_mapIdx, List.getElem?_mapIdx]
      cases hk : q.2[k]? with
      | none => rfl
      | some o =>
        cases o with
        | none => rfl
        | some z =>
          have hl : k < q.2.length := (List.getElem?_eq_some_iff.mp hk).1
          have h1 := List.all_eq_true.mp h k (List.mem_range.mpr hl)
          rw [hk] at h1
          have h2 : ¬ f k = 0 := by simpa using h1
          show some (if f k = 0 then Value.null else Value.ref (ad z.1 (z.2 i))) = some (Value.ref (ad z.1 (z.2 i)))
          rw [if_neg h2]
    rw [this] at hv
    exact hv
  · rename_i n t hq
    rw [hq]
    exact hv
  · rename_i n t q hq
    rw [hq] at h ⊢
    have h1 : ∀ j, j < n → ¬ f j = 0 := fun j hj => by simpa using List.all_eq_true.mp h j (List.mem_range.mpr hj)
    show H[a]? = some (vp_cell _ _)
    have hv : H[a]? = some (vp_cell (dA r i) (n, .inr (.inr (.inr (.inr (rfN ad f i q)))))) := hv
    rw [hv, vp_cell_q, vp_cell_q]
    congr 1
    unfold arrV
    congr 1
    congr 1
    funext j
    show va_rf (if f j.val = 0 then none else some (ad q.1 (q.2 i j.val))) = va_rf (some (ad q.1 (q.2 i j.val)))
    rw [if_neg (h1 j.val j.isLt)]
theorem Vf_a : ∀ k, k < 59 → vw Vf 0 k = Vf 25 0 k := by decide +kernel
theorem Vf_b : ∀ h, h < 24 → (-20 ≤ (Vf 25 0 (11 + h)).toInt ∧ (Vf 25 0 (11 + h)).toInt ≤ 20) ∧ (0 ≤ (Vf 25 0 (35 + h)).toInt ∧ (Vf 25 0 (35 + h)).toInt ≤ 9) := by decide +kernel
theorem Vf_c : ∀ k, k < 3 → Vf 16 0 k = if gCt (Vf 25 0) (nI k) 0 < 0 then -1000000005 else gCt (Vf 25 0) (nI k) 0 := by decide +kernel
theorem Vf_d : Vf 25 0 1 = nI 0 ∧ Vf 25 0 2 = nI 0 ∧ Vf 25 0 10 = nI 0 ∧ Vf 0 0 4 = Vf 24 0 3 ∧ Vf 24 0 3 = 0 ∧ Vf 0 0 6 = nI 0 ∧ Vf 24 0 6 = nI 0 ∧ Vf 0 0 11 = nI 0 ∧ Vf 24 0 32 = nI 0 := by decide +kernel
theorem Vf_e : ∀ s, s < 4 → Vf 4 s 0 = Vf 37 0 s ∧ Vf 4 s 1 = nI 0 ∧ Vf 38 0 s = nI 0 ∧ Vf 37 0 s = -1 := by decide +kernel
theorem Vf_f : ∀ s, s < 5 → Vf 5 s 0 = Vf 40 0 s ∧ Vf 40 0 s = 0 := by decide +kernel
theorem Vf_g : (∀ k, k < 13 → Vf 30 0 k = kch k) ∧ ∀ k, k < 4 → Vf 31 0 k = kat k := by decide +kernel
theorem Vf_h : 0 ≤ (Vf 25 0 4).toInt ∧ 0 ≤ (Vf 25 0 5).toInt ∧ 0 ≤ (Vf 25 0 6).toInt ∧ 0 ≤ (Vf 25 0 7).toInt ∧ 0 ≤ (Vf 25 0 9).toInt ∧ msr (Vf 25 0) 0 + (Vf 25 0 4).toInt + (Vf 25 0 5).toInt + (Vf 25 0 6).toInt + (Vf 25 0 7).toInt + (Vf 25 0 9).toInt ≤ 738 * ((0 : Nat) : Int) := by decide +kernel
theorem GR_Vf : GR Vf Vf := by
  obtain ⟨d1, d2, d3, d4, d5, d6, d7, d8, d9⟩ := Vf_d
  refine ⟨0, 0, 0, ⟨⟨⟨d1, by omega, fun k hk => Vf_a k (by omega)⟩, ⟨fun i hi => absurd hi (by omega), Vf_h⟩, Vf_b, ⟨d3, by omega, fun t ht => absurd ht (by omega)⟩, fun t ht => absurd ht (by omega), Vf_c, d2⟩, by omega⟩, ⟨d4, Or.inl d5⟩, fun s hs => ?_, fun s hs => ?_, ⟨0, by omega, d6, d7, fun k hk => absurd hk (by omega)⟩, ⟨0, by omega, d8, d9, fun k hk => absurd hk (by omega)⟩, Vf_g⟩
  · obtain ⟨e1, e2, e3, e4⟩ := Vf_e s hs
    exact ⟨e1, 0, by omega, e2, e3, Or.inl ⟨e4, rfl⟩, fun k hk => absurd hk (by omega)⟩
  · obtain ⟨e1, e2⟩ := Vf_f s hs
    exact ⟨e1, Or.inl e2⟩
/-! ===== the law: its making ===== -/
def HL (b L : Nat) (xs : Nat → Int32) : KJ := fun _ _ _ R s _ args below meth _ ad _ _ B k0 Qf =>
  k0 = 0 ∧ R = room_1 ∧ B = s.heap.size ∧ Qf = lw_Z below args s ∧ meth.sig.returnType = ret ∧ meth.locks = false ∧ args = #[.ref b] ∧ ad 64 0 = b ∧ va_X b L xs s s.heap ∧ b < s.heap.size ∧ Fz ad (fun q => s.heap.size ≤ q) s s.heap
theorem hri_HL {b L d : Nat} {xs : Nat → Int32} (hd : d ≤ 100) : HRI (HL b L xs) d 117 := by
  intro p l e R s m args below meth c ad D dA B k0 Qf hf
  have h1 := hf.1
  have h2 := hf.2.1
  rw [h1, h2]
  have f1 : room_1.frames = 2048 := rfl
  have f2 : room_1.locals = 84000 := rfl
  have f3 : room_1.cells = 600000 := rfl
  have f4 : room_1.slots = 7302250 := rfl
  rw [f1, f2, f3, f4]
  refine ⟨by omega, by omega, fun k hk => ⟨by omega, ?_⟩⟩
  have := SLT_mono hk
  have := SLT_117
  omega
theorem UA_mem {x : Nat × Nat} (h : x ∈ UA) : ∃ j, Ord[j]? = some x ∧ j < 117 := by
  have h1 := List.all_eq_true.mp UA_Ord x h
  obtain ⟨j, hj⟩ := List.getElem?_of_mem (List.contains_iff_mem.mp h1)
  exact ⟨j, hj, Ord_lt hj⟩
theorem hq_gq {b L : Nat} {xs : Nat → Int32} {cc : ByteArray} {nL : Nat} {own : String} {pc : Nat} {al : List (Nat × AV)} {st : List AV} (h : Gq (GL b L xs) UA cc nL own pc al st Vf) : Hq (HL b L xs) cc nL own pc al st 117 Vf := by
  intro p l e R s m args below meth c ad D dA B k0 Qf hf hC H locs ls hP hS hz hk hl
  obtain ⟨h1, h2, h3, h4, h5, h6, h7, h8, h9, h10, h11⟩ := hf
  subst h1
  subst h3
  have hAd := hC.2.2.2.2.2.2.1
  have hK : va_K D vwCl (tyU dA UA) s := by
    refine ⟨hC.2.2.2.2.2.1.1, fun k q hq => ?_⟩
    have hq' : q ∈ tyU dA Ord := by
      obtain ⟨x, hx, hxq⟩ := List.mem_filterMap.mp (List.mem_of_getElem? hq)
      obtain ⟨j, hj, -⟩ := UA_mem hx
      exact List.mem_filterMap.mpr ⟨x, List.mem_of_getElem? hj, hxq⟩
    obtain ⟨k', hk'⟩ := List.getElem?_of_mem hq'
    exact hC.2.2.2.2.2.1.2 k' q hk'
  have hI : Inj ad UA := by
    intro i j x y hx hy hxy
    obtain ⟨a, ha, -⟩ := UA_mem (List.mem_of_getElem? hx)
    obtain ⟨a', ha', -⟩ := UA_mem (List.mem_of_getElem? hy)
    have q1 := hAd a x ha
    have q2 := hAd a' y ha'
    have : a = a' := by omega
    subst this
    have exy : x = y := Option.some.inj (ha.symm.trans ha')
    subst exy
    exact nd_A i (List.getElem?_eq_some_iff.mp hx).1 j (List.getElem?_eq_some_iff.mp hy).1 (hx.trans hy.symm)
  have hA : ∀ q, AU ad UA q → s.heap.size ≤ q := by
    rintro q ⟨x, hx, rfl⟩
    obtain ⟨a, ha, -⟩ := UA_mem hx
    rw [hAd a x ha]
    omega
  have hP1 : va_P D vwCl (wsU ad dA UA Vf) H := by
    intro k q hq
    rw [wsU, List.getElem?_map] at hq
    cases hu : UA[k]? with
    | none => rw [hu] at hq; cases hq
    | some x =>
      rw [hu] at hq
      cases hq
      have hx := List.mem_of_getElem? hu
      obtain ⟨a, ha, hl⟩ := UA_mem hx
      exact cEN_at (List.all_eq_true.mp Vf_ok x hx) (hP a _ (wk_at Vf ha hl))
  have := h p l e R s m args below meth c ad D dA (fun q => s.heap.size ≤ q) 117 (SLT 117) Qf ⟨h2, rfl, rfl, rfl, h4, h5, h6, h7, h8, h9, h10⟩
    ⟨hC.1, hC.2.1, hC.2.2.1, hC.2.2.2.1, hC.2.2.2.2.1, hK, hI, hA, h11⟩ H locs ls hP1 hS hl
  have e0 : SLT 0 = 0 := rfl
  rw [Nat.sub_zero, e0, Nat.sub_zero]
  exact this
theorem law_make {b L : Nat} {xs : Nat → Int32} (hL : L ≤ 384) : Hq (HL b L xs) cL_law 4 RL 0 [(0, aR 64 0)] [] 0 V0 := by
  refine ho_new (r := 0) (i := 0) (d := 100) (K := 117) (hri_HL (by omega)) (by omega) rfl nc_L_7 dL_law_0 ?_
  refine ho_dup dL_law_3 rfl ?_
  refine ho_initE (r := 0) (i := 0) (As := []) mi_X6_init (d := 3) (K := 117) (hri_HL (by omega)) (by omega) (by omega) ml_L_9 dL_law_4 rfl rfl (Nat.le_of_ble_eq_true rfl) (ci_X6 _) ?_
  refine ho_astore_n (al1 := [(1, aR 0 0), (0, aR 64 0)]) dL_law_7 rfl (by omega) rfl ?_
  refine ho_new (r := 24) (i := 0) (d := 100) (K := 117) (hri_HL (by omega)) (by omega) rfl nc_L_10 dL_law_8 ?_
  refine ho_dup dL_law_11 rfl ?_
  refine ho_initE (r := 24) (i := 0) (As := []) mi_X7_init (d := 1) (K := 117) (hri_HL (by omega)) (by omega) (by omega) ml_L_12 dL_law_12 rfl rfl (Nat.le_of_ble_eq_true rfl) (ci_X7 _) ?_
  refine ho_astore_n (al1 := [(2, aR 24 0), (1, aR 0 0), (0, aR 64 0)]) dL_law_15 rfl (by omega) rfl ?_
  refine ho_iconst (v := 0) dL_law_16 (by decide) ?_
  refine ho_istore_n (al1 := alN 0) dL_law_17 rfl (by omega) rfl ?_
  exact hq_gq (law_loop hL (L + 1) 0 Vf (by omega) (by omega) GR_Vf)
