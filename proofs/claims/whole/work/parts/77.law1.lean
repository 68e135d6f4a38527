/-! ===== the law: two calls of one kind, side by side ===== -/
theorem mX_lt {r i : Nat} (h : (r, i) ∈ UX) : r < 24 := by have := (rng_mem h).2.1; omega
theorem mM_ge {r i : Nat} (h : (r, i) ∈ UM) : 24 ≤ r := (rng_mem h).1
theorem cl_congr {U : Uv} {d : Nat} {M : MI} {as : List AV} {V V1 : Mem} {P : Option AV → Mem → Prop} (h : Cl U d M as V P) (e : ∀ x ∈ U, V1 x.1 x.2 = V x.1 x.2) : Cl U d M as V1 P := by
  intro l ad D dA
  have e1 : wsU ad dA U V1 = wsU ad dA U V := by
    unfold wsU
    exact List.map_congr_left (fun x hx => by rw [e x hx])
  have e2 : PB ad D dA U V1 = PB ad D dA U V := by
    funext T
    unfold PB
    rw [e1]
  rw [e2]
  exact h l ad D dA
theorem GR.congr {X M X1 M1 : Mem} (hG : GR X M) (eX : ∀ x ∈ UX, X1 x.1 x.2 = X x.1 x.2) (eM : ∀ x ∈ UM, M1 x.1 x.2 = M x.1 x.2) : GR X1 M1 := by
  have x1 : ∀ r i n, r < 24 → cnt r = n → i < n → X1 r i = X r i := fun r i n h1 h2 h3 => eX (r, i) (mX h1 h2 h3)
  have m1 : ∀ r, 24 ≤ r → r < 46 → cnt r = 1 → M1 r 0 = M r 0 := fun r h0 h1 h2 => eM (r, 0) (mM h0 h1 h2)
  have m24 : M1 24 0 = M 24 0 := m1 24 (by omega) (by omega) rfl
  have x0 : X1 0 0 = X 0 0 := x1 0 0 1 (by omega) rfl (by omega)
  have hW : ∀ w (n : NF) m T h B, w < 2 → T ≤ 14 → WS X w n m T h B → WS X1 w n m T h B := fun w n m T h B hw hT q =>
    q.eq (x1 2 w 3 (by omega) rfl (by omega)) (x1 14 w 3 (by omega) rfl (by omega)) (x1 15 w 3 (by omega) rfl (by omega)) (x1 16 w 3 (by omega) rfl (by omega)) (fun i hi => x1 3 _ 29 (by omega) rfl (by omega)) (x1 7 0 1 (by omega) rfl (by omega)) (x1 8 0 1 (by omega) rfl (by omega)) (x1 9 0 1 (by omega) rfl (by omega)) (fun t ht => x1 11 t 14 (by omega) rfl (by omega))
  obtain ⟨m, T, h, ⟨hN, hh⟩, h1, h2, h3, h4, h5, h6⟩ := hG
  have hT : T ≤ 14 := hN.2.2.2.1.2.1
  refine ⟨m, T, h, ⟨?_, hh⟩, ?_, fun s hs => ?_, fun s hs => ?_, ?_, ?_, ?_⟩
  · rw [m1 25 (by omega) (by omega) rfl]
    exact hW 0 _ m T h _ (by omega) hT hN
  · unfold ImgR
    rw [x0, m24, m1 26 (by omega) (by omega) rfl]
    refine ⟨h1.1, h1.2.imp id (fun q => ⟨q.1, ?_⟩)⟩
    obtain ⟨m1', T1, h1', q1, q2, q3⟩ := q.2
    exact ⟨m1', T1, h1', hW 1 _ _ _ _ _ (by omega) (by omega) q1, q2, q3⟩
  · have := h2 s hs
    unfold ShR at this ⊢
    rw [x1 4 s 9 (by omega) rfl (by omega), x1 23 s 9 (by omega) rfl (by omega), m1 37 (by omega) (by omega) rfl, m1 38 (by omega) (by omega) rfl, m1 39 (by omega) (by omega) rfl]
    exact this
  · have := h3 s hs
    unfold SlR at this ⊢
    rw [x1 5 s 5 (by omega) rfl (by omega), x1 3 (24 + s) 29 (by omega) rfl (by omega), x1 4 (4 + s) 9 (by omega) rfl (by omega), x1 23 (4 + s) 9 (by omega) rfl (by omega), m1 40 (by omega) (by omega) rfl, m1 41 (by omega) (by omega) rfl, m1 42 (by omega) (by omega) rfl, m1 43 (by omega) (by omega) rfl]
    exact this
  · unfold TpR at h4 ⊢
    rw [x0, m24, x1 17 0 1 (by omega) rfl (by omega), m1 29 (by omega) (by omega) rfl]
    exact h4
  · unfold WtR at h5 ⊢
    rw [x0, m24, x1 21 0 1 (by omega) rfl (by omega), m1 45 (by omega) (by omega) rfl]
    exact h5
  · unfold CkR at h6 ⊢
    rw [m1 30 (by omega) (by omega) rfl, m1 31 (by omega) (by omega) rfl]
    exact h6
def UA : Uv := UX ++ UM
theorem nd_X : ∀ a, a < 95 → ∀ b, b < 95 → UX[a]? = UX[b]? → a = b := by decide +kernel
theorem nd_M : ∀ a, a < 22 → ∀ b, b < 22 → UM[a]? = UM[b]? → a = b := by decide +kernel
theorem UX_nd (a b : Nat) (x : Nat × Nat) (h1 : UX[a]? = some x) (h2 : UX[b]? = some x) : a = b :=
  nd_X a (by have := (List.getElem?_eq_some_iff.mp h1).1; exact this) b (by have := (List.getElem?_eq_some_iff.mp h2).1; exact this) (h1.trans h2.symm)
theorem UM_nd (a b : Nat) (x : Nat × Nat) (h1 : UM[a]? = some x) (h2 : UM[b]? = some x) : a = b :=
  nd_M a (by have := (List.getElem?_eq_some_iff.mp h1).1; exact this) b (by have := (List.getElem?_eq_some_iff.mp h2).1; exact this) (h1.trans h2.symm)
/-- the law's own context -/
def GL (b L : Nat) (xs : Nat → Int32) : KT := fun _ _ _ R s _ args below meth _ ad _ _ A cells slots Qf =>
  R = room_1 ∧ A = (fun q => s.heap.size ≤ q) ∧ cells = 117 ∧ slots = SLT 117 ∧ Qf = lw_Z below args s ∧ meth.sig.returnType = ret ∧ meth.locks = false ∧ args = #[.ref b] ∧ ad 64 0 = b ∧ va_X b L xs s s.heap ∧ b < s.heap.size
theorem SLT_117 : SLT 117 ≤ 20000 := by decide +kernel
theorem hr_GL {b L : Nat} {xs : Nat → Int32} : HR (GL b L xs) 100 := by
  intro p l e R s m args below meth c ad D dA A cells slots Qf hf
  have h1 := hf.1
  have h3 := hf.2.2.1
  have h4 := hf.2.2.2.1
  rw [h1, h3, h4]
  exact ⟨Nat.le_of_ble_eq_true rfl, Nat.le_of_ble_eq_true rfl, Nat.le_of_ble_eq_true rfl, Nat.le_trans SLT_117 (Nat.le_of_ble_eq_true rfl)⟩
section GLR
variable {b L : Nat} {xs : Nat → Int32} {cc : ByteArray} {nL : Nat} {own : String} {pc : Nat} {al : List (Nat × AV)} {st : List AV} {V : Mem}
theorem gl_x {idx n : Nat} {mx mm : MI} {as stk : List AV} {T : u_T} {N : Nat} (hO : OP 100 mx mm as V V) (hM : MV mx n) (hd : decode cc pc = .ok (.invokevirtual idx, 3)) (hl0 : Cond.methodLink own idx mx.1 ∈ WSU) (hc : vwCl[6]? = some (mx.1.cls, T, N)) (hlen : as.length = n) (hstk : stk = as.reverse ++ [aR 0 0])
    (kk : ∀ a X1 V1, (∀ x ∈ UX, V1 x.1 x.2 = X1 x.1 x.2) → Cl UM 100 mm (aR 24 0 :: as) V1 (fun v2 M1 => v2 = some (aI a) ∧ GR X1 M1) → Gq (GL b L xs) UA cc nL own (pc + 3) al [aI a] V1) : Gq (GL b L xs) UA cc nL own pc al stk V := by
  refine go_callV0 (U0 := UX) (st := []) hM hd hl0 hr_GL (r := 0) (i := 0) rfl hc (mX (n := 1) (by omega) rfl (by omega)) (fun x hx => List.mem_append_left _ hx) UX_nd hlen hstk (Nat.zero_le 8) hO (fun v X1 hv => ?_)
  obtain ⟨a, rfl, hm⟩ := hv
  exact kk a X1 _ (fun x hx => if_pos hx) (cl_congr hm (fun x hx => if_neg (fun z => absurd (mX_lt z) (by have := mM_ge hx; omega))))
theorem gl_m {idx n : Nat} {a : Int32} {X1 : Mem} {mm : MI} {as stk : List AV} {T : u_T} {N : Nat} (hX : ∀ x ∈ UX, V x.1 x.2 = X1 x.1 x.2) (hO : Cl UM 100 mm (aR 24 0 :: as) V (fun v2 M1 => v2 = some (aI a) ∧ GR X1 M1)) (hM : MV mm n) (hd : decode cc pc = .ok (.invokevirtual idx, 3)) (hl0 : Cond.methodLink own idx mm.1 ∈ WSU) (hc : vwCl[7]? = some (mm.1.cls, T, N)) (hlen : as.length = n) (hstk : stk = as.reverse ++ aR 24 0 :: [aI a])
    (kk : ∀ V2, GR V2 V2 → Gq (GL b L xs) UA cc nL own (pc + 3) al [aI a, aI a] V2) : Gq (GL b L xs) UA cc nL own pc al stk V := by
  refine go_callV0 (U0 := UM) (st := [aI a]) hM hd hl0 hr_GL (r := 24) (i := 0) rfl hc (mM (by omega) (by omega) rfl) (fun x hx => List.mem_append_right _ hx) UM_nd hlen hstk (Nat.le_of_ble_eq_true rfl) hO (fun v M1 hv => ?_)
  obtain ⟨rfl, hG⟩ := hv
  exact kk _ (hG.congr (fun x hx => (if_neg (fun z => absurd (mX_lt hx) (by have := mM_ge z; omega))).trans (hX x hx)) (fun x hx => if_pos hx))
theorem gl_slen (hd : decode cc pc = .ok (.arraylength, 1)) (kk : Gq (GL b L xs) UA cc nL own (pc + 1) al (aI (nI L) :: st) V) : Gq (GL b L xs) UA cc nL own pc al (aR 64 0 :: st) V := by
  intro p l e R s m args below meth c ad D dA A cells slots Qf hf hC H locs ls hP hS hl
  have h := id hf
  obtain ⟨h1, h2, h3, h4, h5, h6, h7, h8, h9, h10, h11⟩ := h
  have e1 : (aR 64 0 :: st).map (cv ad) = .ref b :: st.map (cv ad) := by rw [← h9]; rfl
  rw [e1]
  exact va_slen (A := A) hC.1 hC.2.1 h10 h11 (by rw [h2]; exact Nat.not_le.mpr h11) hS hd (kk p l e R s m args below meth c ad D dA A cells slots Qf hf hC H locs ls hP hS hl)
theorem gl_sld {j : Nat} {x : Int32} (hx : x = nI j) (hj : j < L) (hL : L ≤ 384) (hd : decode cc pc = .ok (.iaload, 1)) (kk : Gq (GL b L xs) UA cc nL own (pc + 1) al (aI (xs j) :: st) V) : Gq (GL b L xs) UA cc nL own pc al (aI x :: aR 64 0 :: st) V := by
  intro p l e R s m args below meth c ad D dA A cells slots Qf hf hC H locs ls hP hS hl
  have h := id hf
  obtain ⟨h1, h2, h3, h4, h5, h6, h7, h8, h9, h10, h11⟩ := h
  subst hx
  have e1 : (aI (nI j) :: aR 64 0 :: st).map (cv ad) = .int (nI j) :: .ref b :: st.map (cv ad) := by rw [← h9]; rfl
  rw [e1]
  refine va_sld (A := A) hC.1 hC.2.1 h10 h11 (by rw [h2]; exact Nat.not_le.mpr h11) hS (vp_in_nI hj (by omega)) hd ?_
  rw [nI_clamp (by omega)]
  exact kk p l e R s m args below meth c ad D dA A cells slots Qf hf hC H locs ls hP hS hl
theorem gl_arg {n k0 : Nat} {z : Int32} (hL : L ≤ 384) (hn : n + 6 ≤ L) (hk0 : k0 < 6) (hz : z = nI k0) (h1 : decode cc pc = .ok (.aload_n 0, 1)) (h2 : decode cc (pc + 1) = .ok (.iload_n 3, 1)) {kI : Int} (h3 : decode cc (pc + 2) = .ok (.iconst kI, 1)) (hk : Int32.ofInt kI = z) (h4 : decode cc (pc + 3) = .ok (.iadd, 1)) (h5 : decode cc (pc + 4) = .ok (.iaload, 1)) (ha : al[3]? = some (0, aR 64 0)) (hi : al[0]? = some (3, aI (nI n)))
    (kk : Gq (GL b L xs) UA cc nL own (pc + 5) al (aI (xs (n + k0)) :: st) V) : Gq (GL b L xs) UA cc nL own pc al st V := by
  refine go_aload_n (q := 3) h1 rfl ha ?_
  refine go_iload_n (q := 0) h2 rfl hi ?_
  refine go_iconst (v := z) h3 hk ?_
  refine go_iadd h4 ?_
  exact gl_sld (by rw [hz, nI_add]) (by omega) hL h5 kk
theorem gl_ret (hcc : cc = code) (hd : decode cc pc = .ok (.ireturn, 1)) : Gq (GL b L xs) UA cc nL own pc al [aI 1] V := by
  intro p l e R s m args below meth c ad D dA A cells slots Qf hf hC H locs ls hP hS hl
  subst hcc
  have h := id hf
  obtain ⟨h1, h2, h3, h4, h5, h6, h7, h8, h9, h10, h11⟩ := h
  rw [h5, h1, h8, h3, h4]
  refine va_forget (fun q hq => by have := hS.2.2 q hq; rw [h2] at this; exact this) ?_
  exact W.widen (Nat.le_of_ble_eq_true rfl) (Nat.le_trans SLT_117 (Nat.le_of_ble_eq_true rfl)) (lw_ret hC.1 hC.2.1 h6 h7 hd)
end GLR
