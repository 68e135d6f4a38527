section MORE2
variable {Φ : KT} {U : Uv} {cc : ByteArray} {nL : Nat} {own : String} {pc : Nat} {al : List (Nat × AV)} {st : List AV} {V : Mem}
theorem nmI {e : Int32} (k : ∀ x : Int32, x = e → Gq Φ U cc nL own pc al (aI x :: st) V) : Gq Φ U cc nL own pc al (aI e :: st) V := k e rfl
theorem nmL {e : Int64} (k : ∀ x : Int64, x = e → Gq Φ U cc nL own pc al (aL x :: st) V) : Gq Φ U cc nL own pc al (aL e :: st) V := k e rfl
theorem nmV {W : Mem} (k : ∀ V1 : Mem, V1 = W → Gq Φ U cc nL own pc al st V1) : Gq Φ U cc nL own pc al st W := k W rfl
theorem go_cVI {d idx n r i : Nat} {M : MI} {As : List AV} {stk : List AV} {K : Int32 → Mem → Prop} {ks : List (Option (Nat × (Nat → Nat)))} {ci N : Nat} {T : u_T}
    (hM : MV M n) (hd : decode cc pc = .ok (.invokevirtual idx, 3)) (hl0 : Cond.methodLink own idx M.1 ∈ WSU) (hR : HR Φ d) (hs : sh r = .inl (ci, ks)) (hc : vwCl[ci]? = some (M.1.cls, T, N)) (hm : (r, i) ∈ U) (hlen : As.length = n) (hstk : stk = As.reverse ++ aR r i :: st) (hW : (st.map fun v => if isW v then 2 else 1).sum ≤ 8)
    (h : cI (Cl U d) M (aR r i :: As) V K) (kk : ∀ (x : Int32) (V1 : Mem), K x V1 → Gq Φ U cc nL own (pc + 3) al (aI x :: st) V1) : Gq Φ U cc nL own pc al stk V :=
  go_callV hM hd hl0 hR hs hc hm hlen hstk hW h (fun v V1 h => by obtain ⟨x, rfl, h⟩ := h; exact kk x V1 h)
theorem go_cSI {d idx n : Nat} {M : MI} {As : List AV} {stk : List AV} {K : Int32 → Mem → Prop}
    (hM : MS M n) (hd : decode cc pc = .ok (.invokestatic idx, 3)) (hl0 : Cond.methodLink own idx M.1 ∈ WSU) (hR : HR Φ d) (hlen : As.length = n) (hstk : stk = As.reverse ++ st) (hW : (st.map fun v => if isW v then 2 else 1).sum ≤ 8)
    (h : cI (Cl U d) M As V K) (kk : ∀ (x : Int32) (V1 : Mem), K x V1 → Gq Φ U cc nL own (pc + 3) al (aI x :: st) V1) : Gq Φ U cc nL own pc al stk V :=
  go_callS0 hM hd hl0 hR hlen hstk hW h (fun v V1 h => by obtain ⟨x, rfl, h⟩ := h; exact kk x V1 h)
theorem go_cVL {d idx n r i : Nat} {M : MI} {As : List AV} {stk : List AV} {K : Int64 → Mem → Prop} {ks : List (Option (Nat × (Nat → Nat)))} {ci N : Nat} {T : u_T}
    (hM : MV M n) (hd : decode cc pc = .ok (.invokevirtual idx, 3)) (hl0 : Cond.methodLink own idx M.1 ∈ WSU) (hR : HR Φ d) (hs : sh r = .inl (ci, ks)) (hc : vwCl[ci]? = some (M.1.cls, T, N)) (hm : (r, i) ∈ U) (hlen : As.length = n) (hstk : stk = As.reverse ++ aR r i :: st) (hW : (st.map fun v => if isW v then 2 else 1).sum ≤ 8)
    (h : cL (Cl U d) M (aR r i :: As) V K) (kk : ∀ (x : Int64) (V1 : Mem), K x V1 → Gq Φ U cc nL own (pc + 3) al (aL x :: st) V1) : Gq Φ U cc nL own pc al stk V :=
  go_callV hM hd hl0 hR hs hc hm hlen hstk hW h (fun v V1 h => by obtain ⟨x, rfl, h⟩ := h; exact kk x V1 h)
theorem go_cSL {d idx n : Nat} {M : MI} {As : List AV} {stk : List AV} {K : Int64 → Mem → Prop}
    (hM : MS M n) (hd : decode cc pc = .ok (.invokestatic idx, 3)) (hl0 : Cond.methodLink own idx M.1 ∈ WSU) (hR : HR Φ d) (hlen : As.length = n) (hstk : stk = As.reverse ++ st) (hW : (st.map fun v => if isW v then 2 else 1).sum ≤ 8)
    (h : cL (Cl U d) M As V K) (kk : ∀ (x : Int64) (V1 : Mem), K x V1 → Gq Φ U cc nL own (pc + 3) al (aL x :: st) V1) : Gq Φ U cc nL own pc al stk V :=
  go_callS0 hM hd hl0 hR hlen hstk hW h (fun v V1 h => by obtain ⟨x, rfl, h⟩ := h; exact kk x V1 h)
theorem go_cVV {d idx n r i : Nat} {M : MI} {As : List AV} {stk : List AV} {K : Mem → Prop} {ks : List (Option (Nat × (Nat → Nat)))} {ci N : Nat} {T : u_T}
    (hM : MV M n) (hd : decode cc pc = .ok (.invokevirtual idx, 3)) (hl0 : Cond.methodLink own idx M.1 ∈ WSU) (hR : HR Φ d) (hs : sh r = .inl (ci, ks)) (hc : vwCl[ci]? = some (M.1.cls, T, N)) (hm : (r, i) ∈ U) (hlen : As.length = n) (hstk : stk = As.reverse ++ aR r i :: st) (hW : (st.map fun v => if isW v then 2 else 1).sum ≤ 8)
    (h : cV (Cl U d) M (aR r i :: As) V K) (kk : ∀ (V1 : Mem), K V1 → Gq Φ U cc nL own (pc + 3) al st V1) : Gq Φ U cc nL own pc al stk V :=
  go_callV hM hd hl0 hR hs hc hm hlen hstk hW h (fun v V1 h => by obtain ⟨rfl, h⟩ := h; exact kk V1 h)
theorem go_cSV {d idx n : Nat} {M : MI} {As : List AV} {stk : List AV} {K : Mem → Prop}
    (hM : MS M n) (hd : decode cc pc = .ok (.invokestatic idx, 3)) (hl0 : Cond.methodLink own idx M.1 ∈ WSU) (hR : HR Φ d) (hlen : As.length = n) (hstk : stk = As.reverse ++ st) (hW : (st.map fun v => if isW v then 2 else 1).sum ≤ 8)
    (h : cV (Cl U d) M As V K) (kk : ∀ (V1 : Mem), K V1 → Gq Φ U cc nL own (pc + 3) al st V1) : Gq Φ U cc nL own pc al stk V :=
  go_callS0 hM hd hl0 hR hlen hstk hW h (fun v V1 h => by obtain ⟨rfl, h⟩ := h; exact kk V1 h)
theorem go_cVR {d idx n r i : Nat} {r1 : Nat} {M : MI} {As : List AV} {stk : List AV} {K : Nat → Mem → Prop} {ks : List (Option (Nat × (Nat → Nat)))} {ci N : Nat} {T : u_T}
    (hM : MV M n) (hd : decode cc pc = .ok (.invokevirtual idx, 3)) (hl0 : Cond.methodLink own idx M.1 ∈ WSU) (hR : HR Φ d) (hs : sh r = .inl (ci, ks)) (hc : vwCl[ci]? = some (M.1.cls, T, N)) (hm : (r, i) ∈ U) (hlen : As.length = n) (hstk : stk = As.reverse ++ aR r i :: st) (hW : (st.map fun v => if isW v then 2 else 1).sum ≤ 8)
    (h : cR (Cl U d) M (aR r i :: As) V r1 K) (kk : ∀ (x : Nat) (V1 : Mem), K x V1 → Gq Φ U cc nL own (pc + 3) al (aR r1 x :: st) V1) : Gq Φ U cc nL own pc al stk V :=
  go_callV hM hd hl0 hR hs hc hm hlen hstk hW h (fun v V1 h => by obtain ⟨x, rfl, h⟩ := h; exact kk x V1 h)
theorem go_cSR {d idx n : Nat} {r1 : Nat} {M : MI} {As : List AV} {stk : List AV} {K : Nat → Mem → Prop}
    (hM : MS M n) (hd : decode cc pc = .ok (.invokestatic idx, 3)) (hl0 : Cond.methodLink own idx M.1 ∈ WSU) (hR : HR Φ d) (hlen : As.length = n) (hstk : stk = As.reverse ++ st) (hW : (st.map fun v => if isW v then 2 else 1).sum ≤ 8)
    (h : cR (Cl U d) M As V r1 K) (kk : ∀ (x : Nat) (V1 : Mem), K x V1 → Gq Φ U cc nL own (pc + 3) al (aR r1 x :: st) V1) : Gq Φ U cc nL own pc al stk V :=
  go_callS0 hM hd hl0 hR hlen hstk hW h (fun v V1 h => by obtain ⟨x, rfl, h⟩ := h; exact kk x V1 h)
end MORE2
