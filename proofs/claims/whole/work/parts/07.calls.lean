/-! ===== calls, returns ===== -/
section CALLS
variable {Φ : KT} {U : Uv} {cc : ByteArray} {nL : Nat} {own : String} {pc : Nat} {al : List (Nat × AV)} {st : List AV} {V : Mem}
theorem pb_calling {ad : Nat → Nat → Nat} {D : va_G} {dA : Nat → Nat → ClassId} {U : Uv} {V : Mem} {as : List Value} : FrameBlind (va_Pc as (PB ad D dA U V)) := by
  intro a T g mk h
  obtain ⟨h1, h2, h3, h4, h5⟩ := h
  exact ⟨h1, h2, va_K.moved (u := T) (U := T.calling g mk a) (Vm.Alike.refl T.vm) h3, h4, Fz.same (s := T) rfl h5⟩
/-- behind a call -/
theorem run_go {p : Program} {l : Launch} {e : Env} {R : Room} {s : State} {m : MethodId} {args : Array Value} {below : List Frame} {meth : Method} {c : Code} {H : Heap} {locs : List Loc} {cells slots : Nat} {Q : State → Prop} {ls : Array Slot} {rest st0 : List Value} {a : Array Value} {A0 : Nat → Prop}
    {ad : Nat → Nat → Nat} {D : va_G} {dA : Nat → Nat → ClassId} {P : Option AV → Mem → Prop}
    (hr : va_Run p l e R s m args below meth c H locs cells slots 0 0 (F0 m pc ls st0) rest (QR ad D dA U P a) (AU ad U)) (hS : va_S A0 s.heap H locs) (hA : ∀ q, AU ad U q → A0 q)
    (kk : ∀ (v : Option AV) (V' : Mem) (H1 : Heap) (locs1 : List Loc), P v V' → va_P D vwCl (wsU ad dA U V') H1 → H.size ≤ H1.size → (∀ q : Nat, q < H.size → ¬ AU ad U q → H1[q]? = H[q]?) → va_S A0 s.heap H1 locs1 → W p l e R s m args below meth c H1 locs1 cells slots Q (F0 m (pc + 3) ls ((v.map (cv ad)).toList ++ rest))) :
    W p l e R s m args below meth c H locs cells slots Q (F0 m pc ls st0) := by
  intro T hT X
  obtain ⟨v, st₀, t, T', L, h0, X', hL, e1, e2, ⟨⟨w, V', hv, hp, hb⟩, hz, hk⟩, stp⟩ := hr T hT X
  cases hv
  rw [h0] at hz hk
  obtain ⟨t2, a1, b1⟩ := kk w V' T'.heap (locs ++ L) hp (by rw [e1]; exact hb.1) (by rw [e1]; exact hz) (fun q h1 h2 => by rw [e1]; exact hk q h1 h2)
    ⟨Nat.le_trans hS.1 (by rw [e1]; exact hz), fun q h1 h2 => by rw [e1, hk q (Nat.lt_of_lt_of_le h1 hS.1) (fun z => h2 (hA q z))]; exact hS.2.1 q h1 h2, fun q hq => by
      rcases List.mem_append.mp hq with h | h
      · exact hS.2.2 q h
      · exact hA _ (hL q h)⟩ T' rfl X'
  exact ⟨t2, stp t2 a1, b1⟩
theorem wsM_good {M : MI} (h : Cond.code M.1 M.2.1 M.2.2.1 M.2.2.2 ∈ WSU) : GoodIn WSU (wsM M) := wsu_good (fun w hw => by
  rcases List.mem_cons.mp hw with rfl | hw
  · exact h
  · exact hw)
/-- the callee's cells are of the caller's world, which may hold others (U1) -/
theorem go_callV0 {d idx n r i : Nat} {M : MI} {As : List AV} {stk : List AV} {P : Option AV → Mem → Prop} {ks : List (Option (Nat × (Nat → Nat)))} {ci N : Nat} {T : u_T} {U0 : Uv}
    (hM : MV M n) (hd : decode cc pc = .ok (.invokevirtual idx, 3)) (hl0 : Cond.methodLink own idx M.1 ∈ WSU) (hR : HR Φ d) (hs : sh r = .inl (ci, ks)) (hc : vwCl[ci]? = some (M.1.cls, T, N)) (hm : (r, i) ∈ U0) (hsub : ∀ x ∈ U0, x ∈ U) (hnd : ∀ (a b : Nat) (x : Nat × Nat), U0[a]? = some x → U0[b]? = some x → a = b) (hlen : As.length = n) (hstk : stk = As.reverse ++ aR r i :: st) (hW : (st.map fun v => if isW v then 2 else 1).sum ≤ 8)
    (h : Cl U0 d M (aR r i :: As) V P)
    (kk : ∀ (v : Option AV) (V' : Mem), P v V' → Gq Φ U cc nL own (pc + 3) al (v.toList ++ st) (fun r' i' => if (r', i') ∈ U0 then V' r' i' else V r' i')) : Gq Φ U cc nL own pc al stk V := by
  intro p l e R s m args below meth c ad D dA A cells slots Qf hf hC H locs ls hP hS hl
  obtain ⟨hr1, hr2, hr3, hr4⟩ := hR p l e R s m args below meth c ad D dA A cells slots Qf hf
  obtain ⟨k1, k2, k3, k4, k5, k6⟩ := hM
  have hts := hC.2.2.2.2.1
  have hI := hC.2.2.2.2.2.2.1
  have hAU : ∀ q, AU ad U0 q → AU ad U q := fun q ⟨x, hx, e⟩ => ⟨x, hsub x hx, e⟩
  have hI0 : Inj ad U0 := by
    intro a b x y hx hy hxy
    obtain ⟨a', ha'⟩ := List.getElem?_of_mem (hsub x (List.mem_of_getElem? hx))
    obtain ⟨b', hb'⟩ := List.getElem?_of_mem (hsub y (List.mem_of_getElem? hy))
    have := hI a' b' x y ha' hb' hxy
    subst this
    have exy : x = y := Option.some.inj (ha'.symm.trans hb')
    subst exy
    exact hnd a b x hx hy
  have hP0 : va_P D vwCl (wsU ad dA U0 V) H := by
    intro k q hq
    rw [wsU, List.getElem?_map] at hq
    cases hu : U0[k]? with
    | none => rw [hu] at hq; cases hq
    | some x =>
      rw [hu] at hq
      cases hq
      obtain ⟨p', -, hp'⟩ := ws_at (ad := ad) (dA := dA) V (hsub x (List.mem_of_getElem? hu))
      exact hP p' _ hp'
  have hK0 : va_K D vwCl (tyU dA U0) s := by
    refine ⟨hC.2.2.2.2.2.1.1, fun k q hq => ?_⟩
    have hq' : q ∈ tyU dA U := by
      obtain ⟨x, hx, hxq⟩ := List.mem_filterMap.mp (List.mem_of_getElem? hq)
      exact List.mem_filterMap.mpr ⟨x, hsub x hx, hxq⟩
    obtain ⟨k', hk'⟩ := List.getElem?_of_mem hq'
    exact hC.2.2.2.2.2.1.2 k' q hk'
  have hF : ∀ T : State, T.heap = H → s.WarmedH T.vm → PB ad D dA U0 V T := fun T hT hWm =>
    ⟨by rw [hT]; exact hP0, va_K.moved hWm.alike hK0, hI0, by
      rw [hT]
      exact ((hC.2.2.2.2.2.2.2.2.kept hS.2.1).narrow (fun q z => hC.2.2.2.2.2.2.2.1 q (hAU q z))).warm hWm⟩
  subst hstk
  have hst : (As.reverse ++ aR r i :: st).map (cv ad) = (As.map (cv ad)).reverse ++ .ref (ad r i) :: st.map (cv ad) := by
    rw [List.map_append, List.map_reverse]; rfl
  rw [hst]
  obtain ⟨q, hq1, hq2⟩ := ws_at (ad := ad) (dA := dA) V hm
  have e1 : cE ad dA (V r i) r i = .inr (ci, fvs ad (V r i) i ks) := by unfold cE; rw [hs]
  rw [e1] at hq2
  refine run_go (U := U0) (va_runV (As := As.map (cv ad)) (rest := st.map (cv ad)) (b := ad r i) (n := n) (C := M.1.cls) ⟨hC.1, hC.2.1, hC.2.2.1, hC.2.2.2.1, hts⟩ (h l ad D dA)
    ⟨callB_of n hts (wsM_good k1) rfl rfl rfl (hts _ k2) (hts _ hl0) k3 ⟨hr1, by show 8 + (M.2.2.1 + 11) + 64 * d ≤ R.locals; omega⟩, hts _ k5, hts _ k6⟩
    ⟨pb_calling, va_recv hK0 hP0 (ci := ci) hc hq2, fun T hT hWm => ⟨rfl, hF T hT hWm⟩⟩ rfl (by rw [List.length_map]; exact hlen) hl.1 rfl (lv_room (by rw [cat_sum]; exact hW)) hd ⟨by omega, by omega⟩) hS (fun q z => hC.2.2.2.2.2.2.2.1 q (hAU q z)) (fun v V' H1 locs1 hp hP1 hz hk hS1 => ?_)
  have hPU : va_P D vwCl (wsU ad dA U (fun r' i' => if (r', i') ∈ U0 then V' r' i' else V r' i')) H1 := by
    intro k q hq
    rw [wsU, List.getElem?_map] at hq
    cases hu : U[k]? with
    | none => rw [hu] at hq; cases hq
    | some x =>
      rw [hu] at hq
      cases hq
      by_cases hx : (x.1, x.2) ∈ U0
      · obtain ⟨p', -, hp'⟩ := ws_at (ad := ad) (dA := dA) V' hx
        have := hP1 p' _ hp'
        show va_at D vwCl (ad x.1 x.2, cE ad dA (if (x.1, x.2) ∈ U0 then V' x.1 x.2 else V x.1 x.2) x.1 x.2) H1
        rw [if_pos hx]
        exact this
      · obtain ⟨p', -, hp'⟩ := ws_at (ad := ad) (dA := dA) V (List.mem_of_getElem? hu)
        have h0 := hP p' _ hp'
        show va_at D vwCl (ad x.1 x.2, cE ad dA (if (x.1, x.2) ∈ U0 then V' x.1 x.2 else V x.1 x.2) x.1 x.2) H1
        rw [if_neg hx]
        refine h0.kept (hk _ h0.lt (fun ⟨y, hy, e9⟩ => hx ?_))
        obtain ⟨k2', hk2'⟩ := List.getElem?_of_mem (hsub y hy)
        have := hI k k2' x y hu hk2' e9
        subst this
        have exy : x = y := Option.some.inj (hu.symm.trans hk2')
        rw [exy]
        exact hy
  have := kk v V' hp p l e R s m args below meth c ad D dA A cells slots Qf hf hC H1 locs1 ls hPU hS1 hl
  have e2 : (v.toList ++ st).map (cv ad) = (v.map (cv ad)).toList ++ st.map (cv ad) := by
    rw [List.map_append]; cases v <;> rfl
  rw [e2] at this
  exact this
theorem go_callS0 {d idx n : Nat} {M : MI} {As : List AV} {stk : List AV} {P : Option AV → Mem → Prop}
    (hM : MS M n) (hd : decode cc pc = .ok (.invokestatic idx, 3)) (hl0 : Cond.methodLink own idx M.1 ∈ WSU) (hR : HR Φ d) (hlen : As.length = n) (hstk : stk = As.reverse ++ st) (hW : (st.map fun v => if isW v then 2 else 1).sum ≤ 8)
    (h : Cl U d M As V P)
    (kk : ∀ (v : Option AV) (V' : Mem), P v V' → Gq Φ U cc nL own (pc + 3) al (v.toList ++ st) V') : Gq Φ U cc nL own pc al stk V := by
  intro p l e R s m args below meth c ad D dA A cells slots Qf hf hC H locs ls hP hS hl
  obtain ⟨hr1, hr2, hr3, hr4⟩ := hR p l e R s m args below meth c ad D dA A cells slots Qf hf
  obtain ⟨k1, k2, k3, k4, k5⟩ := hM
  have hts := hC.2.2.2.2.1
  have hF : ∀ T : State, T.heap = H → s.WarmedH T.vm → PB ad D dA U V T := fun T hT hWm =>
    ⟨by rw [hT]; exact hP, va_K.moved hWm.alike hC.2.2.2.2.2.1, hC.2.2.2.2.2.2.1, by
      rw [hT]
      exact ((hC.2.2.2.2.2.2.2.2.kept hS.2.1).narrow (fun q z => hC.2.2.2.2.2.2.2.1 q z)).warm hWm⟩
  subst hstk
  have hst : (As.reverse ++ st).map (cv ad) = (As.map (cv ad)).reverse ++ st.map (cv ad) := by
    rw [List.map_append, List.map_reverse]
  rw [hst]
  refine run_go (U := U) (va_runS (As := As.map (cv ad)) (rest := st.map (cv ad)) (n := n) ⟨hC.1, hC.2.1, hC.2.2.1, hC.2.2.2.1, hts⟩ (h l ad D dA)
    ⟨callB_of n hts (wsM_good k1) rfl rfl rfl (hts _ k2) (hts _ hl0) k3 ⟨hr1, by show 8 + (M.2.2.1 + 11) + 64 * d ≤ R.locals; omega⟩, hts _ k5⟩
    ⟨pb_calling, fun T hT hWm => ⟨rfl, hF T hT hWm⟩⟩ rfl (by rw [List.length_map]; exact hlen) hl.1 rfl (lv_room (by rw [cat_sum]; exact hW)) hd ⟨by omega, by omega⟩) hS hC.2.2.2.2.2.2.2.1 (fun v V' H1 locs1 hp hP1 hz hk hS1 => ?_)
  have := kk v V' hp p l e R s m args below meth c ad D dA A cells slots Qf hf hC H1 locs1 ls hP1 hS1 hl
  have e2 : (v.toList ++ st).map (cv ad) = (v.map (cv ad)).toList ++ st.map (cv ad) := by
    rw [List.map_append]; cases v <;> rfl
  rw [e2] at this
  exact this
end CALLS
section RETS
variable {U : Uv} {cc : ByteArray} {nL : Nat} {own : String} {pc : Nat} {al : List (Nat × AV)} {V : Mem} {d : Nat} {M : MI} {P : Option AV → Mem → Prop}
theorem pb_end {p : Program} {s : State} {m : MethodId} {args : Array Value} {c : Code} {ad : Nat → Nat → Nat} {D : va_G} {dA : Nat → Nat → ClassId} {H : Heap} {locs : List Loc} (hC : Ctx p s m args c ad D dA U (AU ad U) cc nL own) (hP : va_P D vwCl (wsU ad dA U V) H) (hS : va_S (AU ad U) s.heap H locs) (t : State) (ht : t.heap = H) (hW : s.WarmedH t.vm) : PB ad D dA U V t :=
  ⟨by rw [ht]; exact hP, va_K.moved hW.alike hC.2.2.2.2.2.1, hC.2.2.2.2.2.2.1, by rw [ht]; exact (hC.2.2.2.2.2.2.2.2.kept hS.2.1).warm hW⟩
theorem go_zret {x : Int32} {ty : FieldType} (hr : M.2.2.2 = some ty) (hn : narrow ty (.int x) = .int x) (hd : decode cc pc = .ok (.ireturn, 1)) (h : P (some (aI x)) V) : Gq (Kp d M U P) U cc nL own pc al [aI x] V := by
  intro p l e R s m args below meth c ad D dA A cells slots Qf hf hC H locs ls hP hS hl
  obtain ⟨rfl, rfl, rfl, rfl, rfl, h6, h7⟩ := hf
  exact W.zret hC.1 hC.2.1 (h6.trans hr) hn (fun t ht hW => ⟨⟨some (aI x), V, rfl, h, pb_end hC hP hS t ht hW⟩, hS.F ht⟩) hS.2.2 hd h7
theorem go_iret {x : Int32} (hr : M.2.2.2 = some .int) (hd : decode cc pc = .ok (.ireturn, 1)) (h : P (some (aI x)) V) : Gq (Kp d M U P) U cc nL own pc al [aI x] V := go_zret hr rfl hd h
theorem go_bret {x : Int32} (hr : M.2.2.2 = some .boolean) (hd : decode cc pc = .ok (.ireturn, 1)) (hx : x = 0 ∨ x = 1) (h : P (some (aI x)) V) : Gq (Kp d M U P) U cc nL own pc al [aI x] V :=
  go_zret hr (by rcases hx with rfl | rfl <;> rfl) hd h
theorem go_vret (hr : M.2.2.2 = none) (hd : decode cc pc = .ok (.return_, 1)) (h : P none V) : Gq (Kp d M U P) U cc nL own pc al [] V := by
  intro p l e R s m args below meth c ad D dA A cells slots Qf hf hC H locs ls hP hS hl
  obtain ⟨rfl, rfl, rfl, rfl, rfl, h6, h7⟩ := hf
  exact W.vret hC.1 hC.2.1 (h6.trans hr) (fun t ht hW => ⟨⟨none, V, rfl, h, pb_end hC hP hS t ht hW⟩, hS.F ht⟩) hS.2.2 hd h7
theorem go_lret {x : Int64} (hr : M.2.2.2 = some .long) (hd : decode cc pc = .ok (.lreturn, 1)) (h : P (some (aL x)) V) : Gq (Kp d M U P) U cc nL own pc al [aL x] V := by
  intro p l e R s m args below meth c ad D dA A cells slots Qf hf hC H locs ls hP hS hl
  obtain ⟨rfl, rfl, rfl, rfl, rfl, h6, h7⟩ := hf
  exact W.lret hC.1 hC.2.1 (h6.trans hr) (fun t ht hW => ⟨⟨some (aL x), V, rfl, h, pb_end hC hP hS t ht hW⟩, hS.F ht⟩) hS.2.2 hd h7
theorem go_aret {r i : Nat} {n : String} (hr : M.2.2.2 = some (.object n)) (hd : decode cc pc = .ok (.areturn, 1)) (h : P (some (aR r i)) V) : Gq (Kp d M U P) U cc nL own pc al [aR r i] V := by
  intro p l e R s m args below meth c ad D dA A cells slots Qf hf hC H locs ls hP hS hl
  obtain ⟨rfl, rfl, rfl, rfl, rfl, h6, h7⟩ := hf
  exact W.aret hC.1 hC.2.1 (h6.trans hr) (Or.inl ⟨n, rfl⟩) (Or.inr ⟨_, rfl⟩) (fun t ht hW => ⟨⟨some (aR r i), V, rfl, h, pb_end hC hP hS t ht hW⟩, hS.F ht⟩) hS.2.2 hd h7
end RETS
