/-! ===== the two worlds ===== -/
def rng (a n : Nat) : Uv := (List.range n).flatMap (fun k => (List.range (cnt (a + k))).map (fun i => (a + k, i)))
def UX : Uv := rng 0 24
def UM : Uv := rng 24 22
theorem mem_rng {a n r i : Nat} (h1 : a ≤ r) (h2 : r < a + n) (h3 : i < cnt r) : (r, i) ∈ rng a n := by
  refine List.mem_flatMap.mpr ⟨r - a, List.mem_range.mpr (by omega), List.mem_map.mpr ⟨i, ?_, ?_⟩⟩
  · rw [show a + (r - a) = r by omega]
    exact List.mem_range.mpr h3
  · rw [show a + (r - a) = r by omega]
theorem rng_mem {a n r i : Nat} (h : (r, i) ∈ rng a n) : a ≤ r ∧ r < a + n ∧ i < cnt r := by
  obtain ⟨k, hk, h2⟩ := List.mem_flatMap.mp h
  obtain ⟨j, hj, e⟩ := List.mem_map.mp h2
  have hk := List.mem_range.mp hk
  have hj := List.mem_range.mp hj
  have e1 : a + k = r := congrArg Prod.fst e
  have e2 : j = i := congrArg Prod.snd e
  subst e2
  rw [← e1]
  exact ⟨by omega, by omega, hj⟩
theorem mX {r i n : Nat} (h : r < 24) (hc : cnt r = n) (hi : i < n) : (r, i) ∈ UX := mem_rng (Nat.zero_le r) (by omega) (by rw [hc]; exact hi)
theorem mM {r : Nat} (h0 : 24 ≤ r) (h : r < 46) (hc : cnt r = 1) : (r, 0) ∈ UM := mem_rng h0 (by omega) (by rw [hc]; exact Nat.zero_lt_one)
abbrev CT : Type := MI → List AV → Mem → (Option AV → Mem → Prop) → Prop
abbrev cI (C : CT) (M : MI) (as : List AV) (V : Mem) (K : Int32 → Mem → Prop) : Prop := C M as V (fun v V1 => ∃ x : Int32, v = some (aI x) ∧ K x V1)
abbrev cL (C : CT) (M : MI) (as : List AV) (V : Mem) (K : Int64 → Mem → Prop) : Prop := C M as V (fun v V1 => ∃ x : Int64, v = some (aL x) ∧ K x V1)
abbrev cV (C : CT) (M : MI) (as : List AV) (V : Mem) (K : Mem → Prop) : Prop := C M as V (fun v V1 => v = none ∧ K V1)
abbrev cR (C : CT) (M : MI) (as : List AV) (V : Mem) (r : Nat) (K : Nat → Mem → Prop) : Prop := C M as V (fun v V1 => ∃ i : Nat, v = some (aR r i) ∧ K i V1)
section MORE
variable {Φ : KT} {U : Uv} {cc : ByteArray} {nL : Nat} {own : String} {pc : Nat} {al : List (Nat × AV)} {st : List AV} {V : Mem}
theorem go_callV {d idx n r i : Nat} {M : MI} {As : List AV} {stk : List AV} {P : Option AV → Mem → Prop} {ks : List (Option (Nat × (Nat → Nat)))} {ci N : Nat} {T : u_T}
    (hM : MV M n) (hd : decode cc pc = .ok (.invokevirtual idx, 3)) (hl0 : Cond.methodLink own idx M.1 ∈ WSU) (hR : HR Φ d) (hs : sh r = .inl (ci, ks)) (hc : vwCl[ci]? = some (M.1.cls, T, N)) (hm : (r, i) ∈ U) (hlen : As.length = n) (hstk : stk = As.reverse ++ aR r i :: st) (hW : (st.map fun v => if isW v then 2 else 1).sum ≤ 8)
    (h : Cl U d M (aR r i :: As) V P)
    (kk : ∀ (v : Option AV) (V' : Mem), P v V' → Gq Φ U cc nL own (pc + 3) al (v.toList ++ st) V') : Gq Φ U cc nL own pc al stk V := by
  intro p l e R s m args below meth c ad D dA A cells slots Qf hf hC H locs ls hP hS hl
  obtain ⟨hr1, hr2, hr3, hr4⟩ := hR p l e R s m args below meth c ad D dA A cells slots Qf hf
  obtain ⟨k1, k2, k3, k4, k5, k6⟩ := hM
  have hts := hC.2.2.2.2.1
  have hF : ∀ T : State, T.heap = H → s.WarmedH T.vm → PB ad D dA U V T := fun T hT hWm =>
    ⟨by rw [hT]; exact hP, va_K.moved hWm.alike hC.2.2.2.2.2.1, hC.2.2.2.2.2.2.1, by
      rw [hT]
      exact ((hC.2.2.2.2.2.2.2.2.kept hS.2.1).narrow (fun q z => hC.2.2.2.2.2.2.2.1 q z)).warm hWm⟩
  subst hstk
  have hst : (As.reverse ++ aR r i :: st).map (cv ad) = (As.map (cv ad)).reverse ++ .ref (ad r i) :: st.map (cv ad) := by
    rw [List.map_append, List.map_reverse]; rfl
  rw [hst]
  obtain ⟨q, hq1, hq2⟩ := ws_at (ad := ad) (dA := dA) V hm
  have e1 : cE ad dA (V r i) r i = .inr (ci, fvs ad (V r i) i ks) := by unfold cE; rw [hs]
  rw [e1] at hq2
  refine run_go (U := U) (va_runV (As := As.map (cv ad)) (rest := st.map (cv ad)) (b := ad r i) (n := n) (C := M.1.cls) ⟨hC.1, hC.2.1, hC.2.2.1, hC.2.2.2.1, hts⟩ (h l ad D dA)
    ⟨callB_of n hts (wsM_good k1) rfl rfl rfl (hts _ k2) (hts _ hl0) k3 ⟨hr1, by show 8 + (M.2.2.1 + 11) + 64 * d ≤ R.locals; omega⟩, hts _ k5, hts _ k6⟩
    ⟨pb_calling, va_recv hC.2.2.2.2.2.1 hP (ci := ci) hc hq2, fun T hT hWm => ⟨rfl, hF T hT hWm⟩⟩ rfl (by rw [List.length_map]; exact hlen) hl.1 rfl (lv_room (by rw [cat_sum]; exact hW)) hd ⟨by omega, by omega⟩) hS hC.2.2.2.2.2.2.2.1 (fun v V' H1 locs1 hp hP1 hz hk hS1 => ?_)
  have := kk v V' hp p l e R s m args below meth c ad D dA A cells slots Qf hf hC H1 locs1 ls hP1 hS1 hl
  have e2 : (v.toList ++ st).map (cv ad) = (v.map (cv ad)).toList ++ st.map (cv ad) := by
    rw [List.map_append]; cases v <;> rfl
  rw [e2] at this
  exact this
theorem go_tabC {dflt lo hi : Int} {offs : Array Int} {len : Nat} {x z : Int32} {off : Int} {tgt : Nat} (hx : x = z) (hd : decode cc pc = .ok (.tableswitch dflt lo hi offs, len)) (h1 : ¬ z.toInt < lo) (h2 : ¬ hi < z.toInt) (ho : offs[(z.toInt - lo).toNat]? = some off) (ht : (pc : Int) + off = (tgt : Int)) (k : Gq Φ U cc nL own tgt al st V) : Gq Φ U cc nL own pc al (aI x :: st) V := by
  subst hx
  exact go_tabIn hd h1 h2 ho ht k
theorem go_lookC {dflt : Int} {ps : Array (Int × Int)} {len : Nat} {x z : Int32} {off : Int} {tgt : Nat} (hx : x = z) (hd : decode cc pc = .ok (.lookupswitch dflt ps, len)) (hp : (ps.toList.zip (ps.toList.drop 1)).all (fun (a, next) => a.1 < next.1) = true) (ho : Op.lookupswitch.offset ps.toList dflt z.toInt = off) (ht : (pc : Int) + off = (tgt : Int)) (k : Gq Φ U cc nL own tgt al st V) : Gq Φ U cc nL own pc al (aI x :: st) V := by
  subst hx
  exact go_lookup hd hp ho ht k
/-- the table of kinds -/
theorem go_above {idx : Nat} (hd : decode cc pc = .ok (.getstatic idx, 3)) (ho : own = RX2) (hi : idx = 30) (k : Gq Φ U cc nL own (pc + 3) al (aR 60 0 :: st) V) : Gq Φ U cc nL own pc al st V := by
  intro p l e R s m args below meth c ad D dA A cells slots Qf hf hC H locs ls hP hS hl
  subst ho
  subst hi
  exact va_getsN hC.1 hC.2.1 hC.2.2.2.2.2.2.2.2.1 hS hC.2.2.2.1 (va_Nw.use rfl hC.2.2.2.2.2.2.2.2.2.2.2.2.2.2.2.2.2.2.2) (fun _ z => z) hd (k p l e R s m args below meth c ad D dA A cells slots Qf hf hC H locs ls hP hS hl)
def abI : Nat → Int32 := fun j => match j with | 0 => -1 | 1 => 0 | 2 => 0 | 3 => 1 | 4 => 2 | _ => 0
theorem abF_eq (j : Nat) : abF j = .int (abI j) := by
  match j with
  | 0 => rfl
  | 1 => rfl
  | 2 => rfl
  | 3 => rfl
  | 4 => rfl
  | _ + 5 => rfl
theorem go_abld {x : Int32} {j : Nat} (hd : decode cc pc = .ok (.iaload, 1)) (hx : x = nI j) (hj : j < 6) (k : Gq Φ U cc nL own (pc + 1) al (aI (abI j) :: st) V) : Gq Φ U cc nL own pc al (aI x :: aR 60 0 :: st) V := by
  intro p l e R s m args below meth c ad D dA A cells slots Qf hf hC H locs ls hP hS hl
  subst hx
  refine va_ti hC.1 hC.2.1 hC.2.2.2.2.2.2.2.2.2.1 hS (vp_in_nI hj (by omega)) (v := .int (abI j)) (by rw [nI_clamp (by omega), abF_eq]) hd (k p l e R s m args below meth c ad D dA A cells slots Qf hf hC H locs ls hP hS hl)
end MORE
