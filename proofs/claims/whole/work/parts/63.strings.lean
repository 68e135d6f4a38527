/-! ===== rows: the six words, and what the library does with them ===== -/
theorem w_compact : Cond.fieldLink RJ0 38 RJ0 "COMPACT_STRINGS" "Z" ∈ WSU := wsu_of 668 (by decide +kernel) rfl
theorem w_siob : Cond.fieldLink RJ0 1053 RJ3 "SIOOBE_FORMATTER" "Ljava/util/function/BiFunction;" ∈ WSU := wsu_of 684 (by decide +kernel) rfl
theorem w_value : Cond.fieldLink RJ0 9 RJ0 "value" "[B" ∈ WSU := wsu_of 1366 (by decide +kernel) rfl
theorem w_coder : Cond.fieldLink RJ0 15 RJ0 "coder" "B" ∈ WSU := wsu_of 1367 (by decide +kernel) rfl
section STRS
variable {Φ : KT} {U : Uv} {cc : ByteArray} {nL : Nat} {own : String} {pc : Nat} {al : List (Nat × AV)} {st : List AV} {V : Mem}
theorem go_ldcS0 {idx : Nat} (hd : decode cc pc = .ok (.ldc idx, 2)) (ho : own = RX1) (hi : idx = 100) (k : Gq Φ U cc nL own (pc + 2) al (aR 61 0 :: st) V) : Gq Φ U cc nL own pc al st V := by
  intro p l e R s m args below meth c ad D dA A cells slots Qf hf hC H locs ls hP hS hl
  subst ho
  subst hi
  exact va_ldcS hC.1 hC.2.1 hC.2.2.2.1 hC.2.2.2.2.2.2.2.2.2.2.2.2.2.1 hd (k p l e R s m args below meth c ad D dA A cells slots Qf hf hC H locs ls hP hS hl)
theorem go_ldcS1 {idx : Nat} (hd : decode cc pc = .ok (.ldc idx, 2)) (ho : own = RX1) (hi : idx = 102) (k : Gq Φ U cc nL own (pc + 2) al (aR 61 1 :: st) V) : Gq Φ U cc nL own pc al st V := by
  intro p l e R s m args below meth c ad D dA A cells slots Qf hf hC H locs ls hP hS hl
  subst ho
  subst hi
  exact va_ldcS hC.1 hC.2.1 hC.2.2.2.1 hC.2.2.2.2.2.2.2.2.2.2.2.2.2.2.1 hd (k p l e R s m args below meth c ad D dA A cells slots Qf hf hC H locs ls hP hS hl)
theorem go_ldcS2 {idx : Nat} (hd : decode cc pc = .ok (.ldc idx, 2)) (ho : own = RX1) (hi : idx = 104) (k : Gq Φ U cc nL own (pc + 2) al (aR 61 2 :: st) V) : Gq Φ U cc nL own pc al st V := by
  intro p l e R s m args below meth c ad D dA A cells slots Qf hf hC H locs ls hP hS hl
  subst ho
  subst hi
  exact va_ldcS hC.1 hC.2.1 hC.2.2.2.1 hC.2.2.2.2.2.2.2.2.2.2.2.2.2.2.2.1 hd (k p l e R s m args below meth c ad D dA A cells slots Qf hf hC H locs ls hP hS hl)
theorem go_ldcS3 {idx : Nat} (hd : decode cc pc = .ok (.ldc idx, 2)) (ho : own = RX1) (hi : idx = 106) (k : Gq Φ U cc nL own (pc + 2) al (aR 61 3 :: st) V) : Gq Φ U cc nL own pc al st V := by
  intro p l e R s m args below meth c ad D dA A cells slots Qf hf hC H locs ls hP hS hl
  subst ho
  subst hi
  exact va_ldcS hC.1 hC.2.1 hC.2.2.2.1 hC.2.2.2.2.2.2.2.2.2.2.2.2.2.2.2.2.1 hd (k p l e R s m args below meth c ad D dA A cells slots Qf hf hC H locs ls hP hS hl)
theorem go_ldcS4 {idx : Nat} (hd : decode cc pc = .ok (.ldc idx, 2)) (ho : own = RX1) (hi : idx = 108) (k : Gq Φ U cc nL own (pc + 2) al (aR 61 4 :: st) V) : Gq Φ U cc nL own pc al st V := by
  intro p l e R s m args below meth c ad D dA A cells slots Qf hf hC H locs ls hP hS hl
  subst ho
  subst hi
  exact va_ldcS hC.1 hC.2.1 hC.2.2.2.1 hC.2.2.2.2.2.2.2.2.2.2.2.2.2.2.2.2.2.1 hd (k p l e R s m args below meth c ad D dA A cells slots Qf hf hC H locs ls hP hS hl)
theorem go_ldcS5 {idx : Nat} (hd : decode cc pc = .ok (.ldc idx, 2)) (ho : own = RX1) (hi : idx = 110) (k : Gq Φ U cc nL own (pc + 2) al (aR 61 5 :: st) V) : Gq Φ U cc nL own pc al st V := by
  intro p l e R s m args below meth c ad D dA A cells slots Qf hf hC H locs ls hP hS hl
  subst ho
  subst hi
  exact va_ldcS hC.1 hC.2.1 hC.2.2.2.1 hC.2.2.2.2.2.2.2.2.2.2.2.2.2.2.2.2.2.2.1 hd (k p l e R s m args below meth c ad D dA A cells slots Qf hf hC H locs ls hP hS hl)
theorem go_strV {idx i : Nat} (hd : decode cc pc = .ok (.getfield idx, 3)) (ho : own = RJ0) (hi : idx = 9) (h6 : i < 6) (k : Gq Φ U cc nL own (pc + 3) al (aR 62 i :: st) V) : Gq Φ U cc nL own pc al (aR 61 i :: st) V := by
  intro p l e R s m args below meth c ad D dA A cells slots Qf hf hC H locs ls hP hS hl
  subst ho
  subst hi
  exact vk_getf (ref := RJ0) hC.1 hC.2.1 (hC.2.2.2.2.2.2.2.2.2.2.1.1 i h6).2.2.1 hS hC.2.2.2.1 (hC.2.2.2.2.1 _ w_value) (fun _ z => z) hd (k p l e R s m args below meth c ad D dA A cells slots Qf hf hC H locs ls hP hS hl)
theorem go_strC {idx i : Nat} (hd : decode cc pc = .ok (.getfield idx, 3)) (ho : own = RJ0) (hi : idx = 15) (h6 : i < 6) (k : Gq Φ U cc nL own (pc + 3) al (aI 0 :: st) V) : Gq Φ U cc nL own pc al (aR 61 i :: st) V := by
  intro p l e R s m args below meth c ad D dA A cells slots Qf hf hC H locs ls hP hS hl
  subst ho
  subst hi
  exact vk_getf (ref := RJ0) hC.1 hC.2.1 (hC.2.2.2.2.2.2.2.2.2.2.1.1 i h6).2.1 hS hC.2.2.2.1 (hC.2.2.2.2.1 _ w_coder) (fun _ z => z) hd (k p l e R s m args below meth c ad D dA A cells slots Qf hf hC H locs ls hP hS hl)
theorem go_tlen {i : Nat} (hd : decode cc pc = .ok (.arraylength, 1)) (h6 : i < 6) (k : Gq Φ U cc nL own (pc + 1) al (aI (nI (lenS.getD i 0)) :: st) V) : Gq Φ U cc nL own pc al (aR 62 i :: st) V := by
  intro p l e R s m args below meth c ad D dA A cells slots Qf hf hC H locs ls hP hS hl
  exact va_tlen hC.1 hC.2.1 (hC.2.2.2.2.2.2.2.2.2.2.1.1 i h6).2.2.2 hS rfl hd (k p l e R s m args below meth c ad D dA A cells slots Qf hf hC H locs ls hP hS hl)
theorem lenS_le {i : Nat} : lenS.getD i 0 ≤ 5 := by
  match i with
  | 0 => decide
  | 1 => decide
  | 2 => decide
  | 3 => decide
  | 4 => decide
  | 5 => decide
  | _ + 6 => exact Nat.zero_le _
theorem go_tb {i j : Nat} {x : Int32} (hd : decode cc pc = .ok (.baload, 1)) (h6 : i < 6) (hx : x = nI j) (hj : j < lenS.getD i 0) (k : Gq Φ U cc nL own (pc + 1) al (aI ((bytS.getD i []).getD j 0) :: st) V) : Gq Φ U cc nL own pc al (aI x :: aR 62 i :: st) V := by
  intro p l e R s m args below meth c ad D dA A cells slots Qf hf hC H locs ls hP hS hl
  subst hx
  have := lenS_le (i := i)
  exact va_tb hC.1 hC.2.1 (hC.2.2.2.2.2.2.2.2.2.2.1.1 i h6).2.2.2 hS (vp_in_nI hj (by omega)) (v := .int ((bytS.getD i []).getD j 0)) (by rw [nI_clamp (by omega)]) hd (k p l e R s m args below meth c ad D dA A cells slots Qf hf hC H locs ls hP hS hl)
theorem go_compact {idx : Nat} (hd : decode cc pc = .ok (.getstatic idx, 3)) (ho : own = RJ0) (hi : idx = 38) (k : Gq Φ U cc nL own (pc + 3) al (aI 1 :: st) V) : Gq Φ U cc nL own pc al st V := by
  intro p l e R s m args below meth c ad D dA A cells slots Qf hf hC H locs ls hP hS hl
  subst ho
  subst hi
  exact va_gets (ref := RJ0) hC.1 hC.2.1 hC.2.2.2.2.2.2.2.2.2.2.2.1 hS hC.2.2.2.1 (hC.2.2.2.2.1 _ w_compact) (fun _ z => z) hd (k p l e R s m args below meth c ad D dA A cells slots Qf hf hC H locs ls hP hS hl)
theorem go_siob {idx : Nat} (hd : decode cc pc = .ok (.getstatic idx, 3)) (ho : own = RJ0) (hi : idx = 1053) (k1 : Gq Φ U cc nL own (pc + 3) al (aR 63 0 :: st) V) (k2 : Gq Φ U cc nL own (pc + 3) al (aN :: st) V) : Gq Φ U cc nL own pc al st V := by
  intro p l e R s m args below meth c ad D dA A cells slots Qf hf hC H locs ls hP hS hl
  subst ho
  subst hi
  rcases hC.2.2.2.2.2.2.2.2.2.2.2.2.1 with z | z
  · exact va_gets (ref := RJ3) hC.1 hC.2.1 z hS hC.2.2.2.1 (hC.2.2.2.2.1 _ w_siob) (fun _ z => z) hd (k2 p l e R s m args below meth c ad D dA A cells slots Qf hf hC H locs ls hP hS hl)
  · exact va_gets (ref := RJ3) hC.1 hC.2.1 z hS hC.2.2.2.1 (hC.2.2.2.2.1 _ w_siob) (fun _ z => z) hd (k1 p l e R s m args below meth c ad D dA A cells slots Qf hf hC H locs ls hP hS hl)
theorem go_callT {d idx n i : Nat} {M : MI} {As : List AV} {stk : List AV} {P : Option AV → Mem → Prop}
    (hM : MV M n) (hd : decode cc pc = .ok (.invokevirtual idx, 3)) (hl0 : Cond.methodLink own idx M.1 ∈ WSU) (hR : HR Φ d) (hc : M.1.cls = RJ0) (h6 : i < 6) (hlen : As.length = n) (hstk : stk = As.reverse ++ aR 61 i :: st) (hW : (st.map fun v => if isW v then 2 else 1).sum ≤ 8)
    (h : Cl U d M (aR 61 i :: As) V P)
    (kk : ∀ (v : Option AV) (V' : Mem), P v V' → Gq Φ U cc nL own (pc + 3) al (v.toList ++ st) V') : Gq Φ U cc nL own pc al stk V := by
  intro p l e R s m args below meth c ad D dA A cells slots Qf hf hC H locs ls hP hS hl
  obtain ⟨hr1, hr2, hr3, hr4⟩ := hR p l e R s m args below meth c ad D dA A cells slots Qf hf
  obtain ⟨k1, k2, k3, k4, k5, k6⟩ := hM
  have hts := hC.2.2.2.2.1
  have hF : ∀ T : State, T.heap = H → s.WarmedH T.vm → PB ad D dA U V T := fun T hT hWm =>
    ⟨by rw [hT]; exact hP, va_K.moved hWm.alike hC.2.2.2.2.2.1, hC.2.2.2.2.2.2.1, by
      rw [hT]
      exact ((hC.2.2.2.2.2.2.2.2.kept hS.2.1).narrow (fun q z => hC.2.2.2.2.2.2.2.1 q z)).warm hWm⟩
  subst hstk
  have hst : (As.reverse ++ aR 61 i :: st).map (cv ad) = (As.map (cv ad)).reverse ++ .ref (ad 61 i) :: st.map (cv ad) := by
    rw [List.map_append, List.map_reverse]; rfl
  rw [hst]
  refine run_go (U := U) (va_runV (As := As.map (cv ad)) (rest := st.map (cv ad)) (b := ad 61 i) (n := n) (C := M.1.cls) ⟨hC.1, hC.2.1, hC.2.2.1, hC.2.2.2.1, hts⟩ (h l ad D dA)
    ⟨callB_of n hts (wsM_good k1) rfl rfl rfl (hts _ k2) (hts _ hl0) k3 ⟨hr1, by show 8 + (M.2.2.1 + 11) + 64 * d ≤ R.locals; omega⟩, hts _ k5, hts _ k6⟩
    ⟨pb_calling, by rw [hc]; exact vk_recv hC.2.2.2.2.2.2.2.2.2.2.1 (show i < nStr from h6) hS, fun T hT hWm => ⟨rfl, hF T hT hWm⟩⟩ rfl (by rw [List.length_map]; exact hlen) hl.1 rfl (lv_room (by rw [cat_sum]; exact hW)) hd ⟨by omega, by omega⟩) hS hC.2.2.2.2.2.2.2.1 (fun v V' H1 locs1 hp hP1 hz hk hS1 => ?_)
  have := kk v V' hp p l e R s m args below meth c ad D dA A cells slots Qf hf hC H1 locs1 ls hP1 hS1 hl
  have e2 : (v.toList ++ st).map (cv ad) = (v.map (cv ad)).toList ++ st.map (cv ad) := by
    rw [List.map_append]; cases v <;> rfl
  rw [e2] at this
  exact this
theorem go_cTI {d idx n i : Nat} {M : MI} {As : List AV} {stk : List AV} {K : Int32 → Mem → Prop}
    (hM : MV M n) (hd : decode cc pc = .ok (.invokevirtual idx, 3)) (hl0 : Cond.methodLink own idx M.1 ∈ WSU) (hR : HR Φ d) (hc : M.1.cls = RJ0) (h6 : i < 6) (hlen : As.length = n) (hstk : stk = As.reverse ++ aR 61 i :: st) (hW : (st.map fun v => if isW v then 2 else 1).sum ≤ 8)
    (h : cI (Cl U d) M (aR 61 i :: As) V K) (kk : ∀ (x : Int32) (V1 : Mem), K x V1 → Gq Φ U cc nL own (pc + 3) al (aI x :: st) V1) : Gq Φ U cc nL own pc al stk V :=
  go_callT hM hd hl0 hR hc h6 hlen hstk hW h (fun v V1 h => by obtain ⟨x, rfl, h⟩ := h; exact kk x V1 h)
end STRS
