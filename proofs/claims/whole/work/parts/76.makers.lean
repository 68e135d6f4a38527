/-! ===== making: the makers ===== -/
theorem ho_initE {Φ : KJ} {cc : ByteArray} {nL : Nat} {own : String} {pc : Nat} {al : List (Nat × AV)} {st : List AV} {k : Nat} {V : Mem} {d K k1 idx n r i : Nat} {M : MI} {As : List AV} {stk : List AV} {V1 : Mem} (hM : MN M n) (hR : HRI Φ d K) (hK : k1 ≤ K) (hkk : k ≤ k1) (hl0 : Cond.methodLink own idx M.1 ∈ WSU) (hd : decode cc pc = .ok (.invokespecial idx, 3)) (hlen : As.length = n) (hstk : stk = As.reverse ++ aR r i :: st) (hW : (st.map fun v => if isW v then 2 else 1).sum ≤ 8) (h : Ci d M (aR r i :: As) k V k1 (fun V' => V' = V1))
    (kk : Hq Φ cc nL own (pc + 3) al st k1 V1) : Hq Φ cc nL own pc al stk k V := ho_init hM hR hK hkk hl0 hd hlen hstk hW h (fun V' hV' => by rw [show V' = V1 from hV']; exact kk)
theorem ho_initNE {Φ : KJ} {cc : ByteArray} {nL : Nat} {own : String} {pc : Nat} {al : List (Nat × AV)} {st : List AV} {k : Nat} {V : Mem} {d K k1 idx n r i : Nat} {M : MI} {As : List AV} {stk : List AV} {V1 : Mem} (hM : MN M n) (hR : HRI Φ d K) (hK : k1 ≤ K) (hkk : k ≤ k1) (hl0 : ∀ s, NW s → va_Nw (.methodLinkNest own idx M.1 RX6) s) (hd : decode cc pc = .ok (.invokespecial idx, 3)) (hlen : As.length = n) (hstk : stk = As.reverse ++ aR r i :: st) (hW : (st.map fun v => if isW v then 2 else 1).sum ≤ 8) (h : Ci d M (aR r i :: As) k V k1 (fun V' => V' = V1))
    (kk : Hq Φ cc nL own (pc + 3) al st k1 V1) : Hq Φ cc nL own pc al stk k V := ho_initN hM hR hK hkk hl0 hd hlen hstk hW h (fun V' hV' => by rw [show V' = V1 from hV']; exact kk)
theorem nzo_ma {V : Mem} {r i r1 i1 j : Nat} {f : Nat → Int32} (h : r1 ≠ r) (hv : ¬ V r1 i1 j = 0) : ¬ ma V r i f r1 i1 j = 0 := by rw [ma_ne (fun z => h z.1)]; exact hv
theorem nzo_mu {V : Mem} {r i r1 i1 j k : Nat} {x : Int32} (h : r1 ≠ r) (hv : ¬ V r1 i1 j = 0) : ¬ mu V r i k x r1 i1 j = 0 := nzo_ma h hv
theorem nzs_mu {V : Mem} {r i j k : Nat} {x : Int32} (h : j ≠ k) (hv : ¬ V r i j = 0) : ¬ mu V r i k x r i j = 0 := by rw [mu, ma_same, up_n h]; exact hv
theorem nzh_mu {V : Mem} {r i k : Nat} {x : Int32} (h : ¬ x = 0) : ¬ mu V r i k x r i k = 0 := by rw [mu, ma_same, up_s]; exact h
theorem iW {i : Nat} (h : i < 3) : True := trivial
theorem ci_X2 {i k : Nat} (V : Mem) : Ci 1 mX2_init [aR 3 i] k V k (fun V' => V' = V) := by
  refine ci_of [(0, aR 3 i)] (by decide) (fun _ => Nat.le_of_ble_eq_true rfl) (fun _ => rfl) rfl rfl ?_
  refine ho_aload_n (q := 0) dX2_init_0 rfl rfl ?_
  refine ho_obj (d := 0) (K := k) (hri_KI (by decide) (Nat.le_refl _)) oi_X2 oi_1 oi_2 dX2_init_1 ?_
  refine ho_vret dX2_init_4 rfl
def fX3 (i : Nat) (V : Mem) : Mem := (mu (ma (mu (mu V 4 i 0 (-1)) 4 i 1 0) 23 i (fun _ => 0)) 4 i 2 1)
theorem ci_X3 {i k j0 : Nat} (V : Mem) (h0 : Ord[j0]? = some (4, i)) (hj : j0 < k) (hO : Ord[k]? = some (23, i)) : Ci 1 mX3_init [aR 4 i] k V (k + 1) (fun V' => V' = fX3 i V) := by
  refine ci_of [(0, aR 4 i)] (by decide) (fun _ => Nat.le_of_ble_eq_true rfl) (fun _ => rfl) rfl rfl ?_
  refine ho_aload_n (q := 0) dX3_init_0 rfl rfl ?_
  refine ho_obj (d := 0) (K := (k + 1)) (hri_KI (by decide) (Nat.le_refl _)) oi_X3 oi_1 oi_2 dX3_init_1 ?_
  refine ho_aload_n (q := 0) dX3_init_4 rfl rfl ?_
  refine ho_iconst (v := (-1)) dX3_init_5 (by decide) ?_
  refine ho_puti (j := j0) fp_X3_9 dX3_init_6 (h0) (by omega) ?_
  refine ho_aload_n (q := 0) dX3_init_9 rfl rfl ?_
  refine ho_iconst (v := 0) dX3_init_10 (by decide) ?_
  refine ho_puti (j := j0) fp_X3_15 dX3_init_11 (h0) (by omega) ?_
  refine ho_aload_n (q := 0) dX3_init_14 rfl rfl ?_
  refine ho_bipush (v := 24) dX3_init_15 (by decide) ?_
  refine ho_newa (atype := .int) (r := 23) (i := i) (n := 24) (d := 0) (K := (k + 1)) (hri_KI (by decide) (Nat.le_refl _)) (by omega) (hO) rfl ay_int (by decide) (by decide) (by decide) rfl (by intro C h; cases h) dX3_init_17 ?_
  refine ho_putr (j := j0) hni_KI ff_X3_18 dX3_init_19 (h0) (by omega) rfl ?_
  refine ho_vret dX3_init_22 rfl
def fX4 (i : Nat) (V : Mem) : Mem := (mu (fX3 ((4 + i)) (ma (mu (ma (mu (mu V 5 i 0 0) 5 i 1 0) 3 ((24 + i)) (fun _ => 0)) 5 i 2 1) 4 ((4 + i)) (fun _ => 0))) 5 i 3 1)
theorem ci_X4 {i b : Nat} (V : Mem) (h0 : Ord[b]? = some (5, i)) (h1 : Ord[b + 1]? = some (3, 24 + i)) (h2 : Ord[b + 2]? = some (4, 4 + i)) (h3 : Ord[b + 3]? = some (23, 4 + i)) : Ci 2 mX4_init [aR 5 i] (b + 1) V (b + 4) (fun V' => V' = fX4 i V) := by
  refine ci_of [(0, aR 5 i)] (by decide) (fun _ => Nat.le_of_ble_eq_true rfl) (fun _ => rfl) rfl rfl ?_
  refine ho_aload_n (q := 0) dX4_init_0 rfl rfl ?_
  refine ho_obj (d := 0) (K := (b + 4)) (hri_KI (by decide) (Nat.le_refl _)) oi_X4 oi_1 oi_2 dX4_init_1 ?_
  refine ho_aload_n (q := 0) dX4_init_4 rfl rfl ?_
  refine ho_iconst (v := 0) dX4_init_5 (by decide) ?_
  refine ho_puti (j := b) fp_X4_9 dX4_init_6 (h0) (by omega) ?_
  refine ho_aload_n (q := 0) dX4_init_9 rfl rfl ?_
  refine ho_iconst (v := 0) dX4_init_10 (by decide) ?_
  refine ho_puti (j := b) fp_X4_15 dX4_init_11 (h0) (by omega) ?_
  refine ho_aload_n (q := 0) dX4_init_14 rfl rfl ?_
  refine ho_new (r := 3) (i := (24 + i)) (d := 0) (K := (b + 4)) (hri_KI (by decide) (Nat.le_refl _)) (by omega) (h1) nc_X4_18 dX4_init_15 ?_
  refine ho_dup dX4_init_18 rfl ?_
  refine ho_initNE (r := 3) (i := (24 + i)) (As := []) mi_X2_init (d := 1) (K := (b + 4)) (hri_KI (by decide) (Nat.le_refl _)) (by omega) (by omega) (fun s h => h.2.2.2.2.1) dX4_init_19 rfl rfl (Nat.le_of_ble_eq_true rfl) (ci_X2 _) ?_
  refine ho_putr (j := b) hni_KI ff_X4_21 dX4_init_22 (h0) (by omega) rfl ?_
  refine ho_aload_n (q := 0) dX4_init_25 rfl rfl ?_
  refine ho_new (r := 4) (i := (4 + i)) (d := 0) (K := (b + 4)) (hri_KI (by decide) (Nat.le_refl _)) (by omega) (h2) nc_X4_25 dX4_init_26 ?_
  refine ho_dup dX4_init_29 rfl ?_
  refine ho_initNE (r := 4) (i := (4 + i)) (As := []) mi_X3_init (d := 1) (K := (b + 4)) (hri_KI (by decide) (Nat.le_refl _)) (by omega) (by omega) (fun s h => h.2.2.2.2.2.1) dX4_init_30 rfl rfl (Nat.le_of_ble_eq_true rfl) (ci_X3 (i := (4 + i)) (j0 := b + 1 + 1) _ (h2) (by omega) (h3)) ?_
  refine ho_putr (j := b) hni_KI ff_X4_28 dX4_init_33 (h0) (by omega) rfl ?_
  refine ho_vret dX4_init_36 rfl
def fX1 (V : Mem) : Mem := (mu (mu (ma V 18 0 (fun _ => 0)) 6 0 1 1) 6 0 0 1)
theorem ci_X1 (V : Mem) : Ci 1 mX1_init [aR 6 0, aR 17 0] 62 V 63 (fun V' => V' = fX1 V) := by
  refine ci_of [(0, aR 6 0), (1, aR 17 0)] (by decide) (fun _ => Nat.le_of_ble_eq_true rfl) (fun _ => rfl) rfl rfl ?_
  refine ho_aload_n (q := 0) dX1_init_0 rfl rfl ?_
  refine ho_obj (d := 0) (K := 63) (hri_KI (by decide) (Nat.le_refl _)) oi_X1 oi_1 oi_2 dX1_init_1 ?_
  refine ho_aload_n (q := 0) dX1_init_4 rfl rfl ?_
  refine ho_bipush (v := 96) dX1_init_5 (by decide) ?_
  refine ho_newa (atype := .int) (r := 18) (i := 0) (n := 96) (d := 0) (K := 63) (hri_KI (by decide) (Nat.le_refl _)) (by omega) (rfl) rfl ay_int (by decide) (by decide) (by decide) rfl (by intro C h; cases h) dX1_init_7 ?_
  refine ho_putr (j := 61) hni_KI ff_X1_9 dX1_init_9 (rfl) (by omega) rfl ?_
  refine ho_aload_n (q := 0) dX1_init_12 rfl rfl ?_
  refine ho_aload_n (q := 1) dX1_init_13 rfl rfl ?_
  refine ho_putr (j := 61) hni_KI ff_X1_15 dX1_init_14 (rfl) (by omega) rfl ?_
  refine ho_vret dX1_init_17 rfl
def fX0 (V : Mem) : Mem := (mu (ma (mu (V5 (mu (ma (mu (ma (mu (ma V 7 0 (fun _ => 0)) 1 0 0 1) 8 0 (fun _ => 0)) 1 0 1 1) 9 0 (fun _ => 0)) 1 0 2 1)) 1 0 3 1) 12 0 (fun _ => 0)) 1 0 4 1)
theorem ci_X0 (V : Mem) : Ci 1 mX0_init [aR 1 0] 2 V 21 (fun V' => V' = fX0 V) := by
  refine ci_of [(0, aR 1 0)] (by decide) (fun _ => Nat.le_of_ble_eq_true rfl) (fun _ => rfl) rfl rfl ?_
  refine ho_aload_n (q := 0) dX0_init_0 rfl rfl ?_
  refine ho_obj (d := 0) (K := 21) (hri_KI (by decide) (Nat.le_refl _)) oi_X0 oi_1 oi_2 dX0_init_1 ?_
  refine ho_aload_n (q := 0) dX0_init_4 rfl rfl ?_
  refine ho_bipush (v := 14) dX0_init_5 (by decide) ?_
  refine ho_newa (atype := .int) (r := 7) (i := 0) (n := 14) (d := 0) (K := 21) (hri_KI (by decide) (Nat.le_refl _)) (by omega) (rfl) rfl ay_int (by decide) (by decide) (by decide) rfl (by intro C h; cases h) dX0_init_7 ?_
  refine ho_putr (j := 1) hni_KI ff_X0_9 dX0_init_9 (rfl) (by omega) rfl ?_
  refine ho_aload_n (q := 0) dX0_init_12 rfl rfl ?_
  refine ho_bipush (v := 14) dX0_init_13 (by decide) ?_
  refine ho_newa (atype := .int) (r := 8) (i := 0) (n := 14) (d := 0) (K := 21) (hri_KI (by decide) (Nat.le_refl _)) (by omega) (rfl) rfl ay_int (by decide) (by decide) (by decide) rfl (by intro C h; cases h) dX0_init_15 ?_
  refine ho_putr (j := 1) hni_KI ff_X0_15 dX0_init_17 (rfl) (by omega) rfl ?_
  refine ho_aload_n (q := 0) dX0_init_20 rfl rfl ?_
  refine ho_bipush (v := 14) dX0_init_21 (by decide) ?_
  refine ho_newa (atype := .int) (r := 9) (i := 0) (n := 14) (d := 0) (K := 21) (hri_KI (by decide) (Nat.le_refl _)) (by omega) (rfl) rfl ay_int (by decide) (by decide) (by decide) rfl (by intro C h; cases h) dX0_init_23 ?_
  refine ho_putr (j := 1) hni_KI ff_X0_18 dX0_init_25 (rfl) (by omega) rfl ?_
  refine ho_aload_n (q := 0) dX0_init_28 rfl rfl ?_
  refine ho_bipush (v := 14) dX0_init_29 (by decide) ?_
  refine ho_bipush (v := 96) dX0_init_31 (by decide) ?_
  refine ho_multi (d := 0) (K := 21) (hri_KI (by decide) (Nat.le_refl _)) (by omega) cl_X0_21 ay_int dX0_init_33 ?_
  refine ho_putr (j := 1) hni_KI ff_X0_23 dX0_init_37 (rfl) (by omega) rfl ?_
  refine ho_aload_n (q := 0) dX0_init_40 rfl rfl ?_
  refine ho_bipush (v := 96) dX0_init_41 (by decide) ?_
  refine ho_newa (atype := .int) (r := 12) (i := 0) (n := 96) (d := 0) (K := 21) (hri_KI (by decide) (Nat.le_refl _)) (by omega) (rfl) rfl ay_int (by decide) (by decide) (by decide) rfl (by intro C h; cases h) dX0_init_43 ?_
  refine ho_putr (j := 1) hni_KI ff_X0_26 dX0_init_45 (rfl) (by omega) rfl ?_
  refine ho_vret dX0_init_48 rfl
def fX5 (w : Nat) (V : Mem) : Mem := (mu (ma (mu (ma (mu (ma (mu (ma (mu (ma (mu (ma (mu (ma (mu (ma (mu (mu (mu (mu (mu (mu (mu (mu (mu (mu (mu (mu (mu (mu (mu (mu (ma (mu (ma (mu (ma (mu (ma V 13 w (fun _ => 0)) 2 w 1 1) 14 w (fun _ => 0)) 2 w 2 1) 15 w (fun _ => 0)) 2 w 3 1) 16 w (fun _ => 0)) 16 w 0 (-1000000005)) 16 w 1 (-1000000005)) 16 w 2 (-1000000005)) 2 w 4 1) 2 w 5 0) 2 w 6 0) 2 w 7 18) 2 w 8 0) 2 w 9 1) 2 w 10 0) 2 w 11 0) 2 w 12 0) 2 w 13 0) 2 w 14 0) 2 w 15 0) 2 w 0 1) 3 ((8 * w + 0)) (fun _ => 0)) 13 w 0 1) 3 ((8 * w + 1)) (fun _ => 0)) 13 w 1 1) 3 ((8 * w + 2)) (fun _ => 0)) 13 w 2 1) 3 ((8 * w + 3)) (fun _ => 0)) 13 w 3 1) 3 ((8 * w + 4)) (fun _ => 0)) 13 w 4 1) 3 ((8 * w + 5)) (fun _ => 0)) 13 w 5 1) 3 ((8 * w + 6)) (fun _ => 0)) 13 w 6 1) 3 ((8 * w + 7)) (fun _ => 0)) 13 w 7 1)
theorem ci_X5 {w b : Nat} (V : Mem) (h0 : Ord[b]? = some (2, w)) (h1 : Ord[b + 1]? = some (13, w)) (h2 : Ord[b + 2]? = some (14, w)) (h3 : Ord[b + 3]? = some (15, w)) (h4 : Ord[b + 4]? = some (16, w)) (hr : ∀ j, j < 8 → Ord[b + 5 + j]? = some (3, 8 * w + j)) : Ci 2 mX5_init [aR 2 w, aR 1 0] (b + 1) V (b + 13) (fun V' => V' = fX5 w V) := by
  refine ci_of [(0, aR 2 w), (1, aR 1 0)] (by decide) (fun _ => Nat.le_of_ble_eq_true rfl) (fun _ => rfl) rfl rfl ?_
  refine ho_aload_n (q := 0) dX5_init_0 rfl rfl ?_
  refine ho_obj (d := 0) (K := (b + 13)) (hri_KI (by decide) (Nat.le_refl _)) oi_X5 oi_1 oi_2 dX5_init_1 ?_
  refine ho_aload_n (q := 0) dX5_init_4 rfl rfl ?_
  refine ho_bipush (v := 8) dX5_init_5 (by decide) ?_
  refine ho_newq (r := 13) (i := w) (n := 8) (d := 0) (K := (b + 13)) (hri_KI (by decide) (Nat.le_refl _)) (by omega) (h1) rfl cl_X5_9 (fun s h => h.2.2.2.2.2.2.1) (by decide) (by decide) dX5_init_7 ?_
  refine ho_putr (j := b) hni_KI ff_X5_11 dX5_init_10 (h0) (by omega) rfl ?_
  refine ho_aload_n (q := 0) dX5_init_13 rfl rfl ?_
  refine ho_bipush (v := 24) dX5_init_14 (by decide) ?_
  refine ho_newa (atype := .int) (r := 14) (i := w) (n := 24) (d := 0) (K := (b + 13)) (hri_KI (by decide) (Nat.le_refl _)) (by omega) (h2) rfl ay_int (by decide) (by decide) (by decide) rfl (by intro C h; cases h) dX5_init_16 ?_
  refine ho_putr (j := b) hni_KI ff_X5_17 dX5_init_18 (h0) (by omega) rfl ?_
  refine ho_aload_n (q := 0) dX5_init_21 rfl rfl ?_
  refine ho_bipush (v := 24) dX5_init_22 (by decide) ?_
  refine ho_newa (atype := .int) (r := 15) (i := w) (n := 24) (d := 0) (K := (b + 13)) (hri_KI (by decide) (Nat.le_refl _)) (by omega) (h3) rfl ay_int (by decide) (by decide) (by decide) rfl (by intro C h; cases h) dX5_init_24 ?_
  refine ho_putr (j := b) hni_KI ff_X5_21 dX5_init_26 (h0) (by omega) rfl ?_
  refine ho_aload_n (q := 0) dX5_init_29 rfl rfl ?_
  refine ho_iconst (v := 3) dX5_init_30 (by decide) ?_
  refine ho_newa (atype := .int) (r := 16) (i := w) (n := 3) (d := 0) (K := (b + 13)) (hri_KI (by decide) (Nat.le_refl _)) (by omega) (h4) rfl ay_int (by decide) (by decide) (by decide) rfl (by intro C h; cases h) dX5_init_31 ?_
  refine ho_dup dX5_init_33 rfl ?_
  refine ho_iconst (v := 0) dX5_init_34 (by decide) ?_
  refine ho_ldc dX5_init_35 ct_X5_24 ?_
  refine ho_iast (j := 0) (j0 := b + 1 + 1 + 1 + 1) rfl (by decide) dX5_init_37 (h4) (by omega) (by decide) (by decide) ?_
  refine ho_dup dX5_init_38 rfl ?_
  refine ho_iconst (v := 1) dX5_init_39 (by decide) ?_
  refine ho_ldc dX5_init_40 ct_X5_24 ?_
  refine ho_iast (j := 1) (j0 := b + 1 + 1 + 1 + 1) rfl (by decide) dX5_init_42 (h4) (by omega) (by decide) (by decide) ?_
  refine ho_dup dX5_init_43 rfl ?_
  refine ho_iconst (v := 2) dX5_init_44 (by decide) ?_
  refine ho_ldc dX5_init_45 ct_X5_24 ?_
  refine ho_iast (j := 2) (j0 := b + 1 + 1 + 1 + 1) rfl (by decide) dX5_init_47 (h4) (by omega) (by decide) (by decide) ?_
  refine ho_putr (j := b) hni_KI ff_X5_25 dX5_init_48 (h0) (by omega) rfl ?_
  refine ho_aload_n (q := 0) dX5_init_51 rfl rfl ?_
  refine ho_iconst (v := 0) dX5_init_52 (by decide) ?_
  refine ho_puti (j := b) fp_X5_28 dX5_init_53 (h0) (by omega) ?_
  refine ho_aload_n (q := 0) dX5_init_56 rfl rfl ?_
  refine ho_iconst (v := 0) dX5_init_57 (by decide) ?_
  refine ho_puti (j := b) fp_X5_32 dX5_init_58 (h0) (by omega) ?_
  refine ho_aload_n (q := 0) dX5_init_61 rfl rfl ?_
  refine ho_bipush (v := 18) dX5_init_62 (by decide) ?_
  refine ho_puti (j := b) fp_X5_35 dX5_init_64 (h0) (by omega) ?_
  refine ho_aload_n (q := 0) dX5_init_67 rfl rfl ?_
  refine ho_iconst (v := 0) dX5_init_68 (by decide) ?_
  refine ho_puti (j := b) fp_X5_38 dX5_init_69 (h0) (by omega) ?_
  refine ho_aload_n (q := 0) dX5_init_72 rfl rfl ?_
  refine ho_iconst (v := 1) dX5_init_73 (by decide) ?_
  refine ho_puti (j := b) fp_X5_41 dX5_init_74 (h0) (by omega) ?_
  refine ho_aload_n (q := 0) dX5_init_77 rfl rfl ?_
  refine ho_iconst (v := 0) dX5_init_78 (by decide) ?_
  refine ho_puti (j := b) fp_X5_44 dX5_init_79 (h0) (by omega) ?_
  refine ho_aload_n (q := 0) dX5_init_82 rfl rfl ?_
  refine ho_iconst (v := 0) dX5_init_83 (by decide) ?_
  refine ho_puti (j := b) fp_X5_47 dX5_init_84 (h0) (by omega) ?_
  refine ho_aload_n (q := 0) dX5_init_87 rfl rfl ?_
  refine ho_iconst (v := 0) dX5_init_88 (by decide) ?_
  refine ho_puti (j := b) fp_X5_50 dX5_init_89 (h0) (by omega) ?_
  refine ho_aload_n (q := 0) dX5_init_92 rfl rfl ?_
  refine ho_iconst (v := 0) dX5_init_93 (by decide) ?_
  refine ho_puti (j := b) fp_X5_53 dX5_init_94 (h0) (by omega) ?_
  refine ho_aload_n (q := 0) dX5_init_97 rfl rfl ?_
  refine ho_iconst (v := 0) dX5_init_98 (by decide) ?_
  refine ho_puti (j := b) fp_X5_56 dX5_init_99 (h0) (by omega) ?_
  refine ho_aload_n (q := 0) dX5_init_102 rfl rfl ?_
  refine ho_iconst (v := 0) dX5_init_103 (by decide) ?_
  refine ho_puti (j := b) fp_X5_59 dX5_init_104 (h0) (by omega) ?_
  refine ho_aload_n (q := 0) dX5_init_107 rfl rfl ?_
  refine ho_aload_n (q := 1) dX5_init_108 rfl rfl ?_
  refine ho_putr (j := b) hni_KI ff_X5_62 dX5_init_109 (h0) (by omega) rfl ?_
  refine ho_iconst (v := 0) dX5_init_112 (by decide) ?_
  refine ho_istore_n (al1 := [(2, aI 0), (0, aR 2 w), (1, aR 1 0)]) dX5_init_113 rfl (by decide) rfl ?_
  refine ho_iload_n (q := 0) dX5_init_114 rfl rfl ?_
  refine ho_bipush (v := 8) dX5_init_115 (by decide) ?_
  refine ho_icmp_ge (tgt := 139) dX5_init_117 rfl (fun h => absurd h (by decide)) (fun _ => ?_)
  refine ho_aload_n (q := 1) dX5_init_120 rfl rfl ?_
  refine ho_getr (j := b) fg_X5_11 dX5_init_121 (h0) (by omega) (nzs_mu (by decide) (nzs_mu (by decide) (nzs_mu (by decide) (nzs_mu (by decide) (nzs_mu (by decide) (nzs_mu (by decide) (nzs_mu (by decide) (nzs_mu (by decide) (nzs_mu (by decide) (nzs_mu (by decide) (nzs_mu (by decide) (nzs_mu (by decide) (nzs_mu (by decide) (nzo_mu (by decide) (nzo_mu (by decide) (nzo_mu (by decide) (nzo_ma (by decide) (nzs_mu (by decide) (nzo_ma (by decide) (nzs_mu (by decide) (nzo_ma (by decide) (nzh_mu (by decide))))))))))))))))))))))) ?_
  refine ho_iload_n (q := 0) dX5_init_124 rfl rfl ?_
  refine ho_new (r := 3) (i := (8 * w + 0)) (d := 0) (K := (b + 13)) (hri_KI (by decide) (Nat.le_refl _)) (by omega) (hr 0 (by decide)) nc_X5_9 dX5_init_125 ?_
  refine ho_dup dX5_init_128 rfl ?_
  refine ho_initNE (r := 3) (i := (8 * w + 0)) (As := []) mi_X2_init (d := 1) (K := (b + 13)) (hri_KI (by decide) (Nat.le_refl _)) (by omega) (by omega) (fun s h => h.2.1) dX5_init_129 rfl rfl (Nat.le_of_ble_eq_true rfl) (ci_X2 _) ?_
  refine ho_aast (j := 0) (j0 := b + 1) (j1 := b + 1 + 1 + 1 + 1 + 1) rfl (by decide) rfl rfl dX5_init_132 (h1) (by omega) (hr 0 (by decide)) (by omega) (by decide) (by decide) rfl ?_
  refine ho_iinc (q := 0) (x := 0) (y := 1) (al1 := [(2, aI 1), (0, aR 2 w), (1, aR 1 0)]) dX5_init_133 rfl (by decide) (by decide) rfl ?_
  refine ho_goto (tgt := 114) dX5_init_136 rfl ?_
  refine ho_iload_n (q := 0) dX5_init_114 rfl rfl ?_
  refine ho_bipush (v := 8) dX5_init_115 (by decide) ?_
  refine ho_icmp_ge (tgt := 139) dX5_init_117 rfl (fun h => absurd h (by decide)) (fun _ => ?_)
  refine ho_aload_n (q := 1) dX5_init_120 rfl rfl ?_
  refine ho_getr (j := b) fg_X5_11 dX5_init_121 (h0) (by omega) (nzo_mu (by decide) (nzo_ma (by decide) (nzs_mu (by decide) (nzs_mu (by decide) (nzs_mu (by decide) (nzs_mu (by decide) (nzs_mu (by decide) (nzs_mu (by decide) (nzs_mu (by decide) (nzs_mu (by decide) (nzs_mu (by decide) (nzs_mu (by decide) (nzs_mu (by decide) (nzs_mu (by decide) (nzs_mu (by decide) (nzo_mu (by decide) (nzo_mu (by decide) (nzo_mu (by decide) (nzo_ma (by decide) (nzs_mu (by decide) (nzo_ma (by decide) (nzs_mu (by decide) (nzo_ma (by decide) (nzh_mu (by decide))))))))))))))))))))))))) ?_
  refine ho_iload_n (q := 0) dX5_init_124 rfl rfl ?_
  refine ho_new (r := 3) (i := (8 * w + 1)) (d := 0) (K := (b + 13)) (hri_KI (by decide) (Nat.le_refl _)) (by omega) (hr 1 (by decide)) nc_X5_9 dX5_init_125 ?_
  refine ho_dup dX5_init_128 rfl ?_
  refine ho_initNE (r := 3) (i := (8 * w + 1)) (As := []) mi_X2_init (d := 1) (K := (b + 13)) (hri_KI (by decide) (Nat.le_refl _)) (by omega) (by omega) (fun s h => h.2.1) dX5_init_129 rfl rfl (Nat.le_of_ble_eq_true rfl) (ci_X2 _) ?_
  refine ho_aast (j := 1) (j0 := b + 1) (j1 := b + 1 + 1 + 1 + 1 + 1 + 1) rfl (by decide) rfl rfl dX5_init_132 (h1) (by omega) (hr 1 (by decide)) (by omega) (by decide) (by decide) rfl ?_
  refine ho_iinc (q := 0) (x := 1) (y := 1) (al1 := [(2, aI 2), (0, aR 2 w), (1, aR 1 0)]) dX5_init_133 rfl (by decide) (by decide) rfl ?_
  refine ho_goto (tgt := 114) dX5_init_136 rfl ?_
  refine ho_iload_n (q := 0) dX5_init_114 rfl rfl ?_
  refine ho_bipush (v := 8) dX5_init_115 (by decide) ?_
  refine ho_icmp_ge (tgt := 139) dX5_init_117 rfl (fun h => absurd h (by decide)) (fun _ => ?_)
  refine ho_aload_n (q := 1) dX5_init_120 rfl rfl ?_
  refine ho_getr (j := b) fg_X5_11 dX5_init_121 (h0) (by omega) (nzo_mu (by decide) (nzo_ma (by decide) (nzo_mu (by decide) (nzo_ma (by decide) (nzs_mu (by decide) (nzs_mu (by decide) (nzs_mu (by decide) (nzs_mu (by decide) (nzs_mu (by decide) (nzs_mu (by decide) (nzs_mu (by decide) (nzs_mu (by decide) (nzs_mu (by decide) (nzs_mu (by decide) (nzs_mu (by decide) (nzs_mu (by decide) (nzs_mu (by decide) (nzo_mu (by decide) (nzo_mu (by decide) (nzo_mu (by decide) (nzo_ma (by decide) (nzs_mu (by decide) (nzo_ma (by decide) (nzs_mu (by decide) (nzo_ma (by decide) (nzh_mu (by decide))))))))))))))))))))))))))) ?_
  refine ho_iload_n (q := 0) dX5_init_124 rfl rfl ?_
  refine ho_new (r := 3) (i := (8 * w + 2)) (d := 0) (K := (b + 13)) (hri_KI (by decide) (Nat.le_refl _)) (by omega) (hr 2 (by decide)) nc_X5_9 dX5_init_125 ?_
  refine ho_dup dX5_init_128 rfl ?_
  refine ho_initNE (r := 3) (i := (8 * w + 2)) (As := []) mi_X2_init (d := 1) (K := (b + 13)) (hri_KI (by decide) (Nat.le_refl _)) (by omega) (by omega) (fun s h => h.2.1) dX5_init_129 rfl rfl (Nat.le_of_ble_eq_true rfl) (ci_X2 _) ?_
  refine ho_aast (j := 2) (j0 := b + 1) (j1 := b + 1 + 1 + 1 + 1 + 1 + 1 + 1) rfl (by decide) rfl rfl dX5_init_132 (h1) (by omega) (hr 2 (by decide)) (by omega) (by decide) (by decide) rfl ?_
  refine ho_iinc (q := 0) (x := 2) (y := 1) (al1 := [(2, aI 3), (0, aR 2 w), (1, aR 1 0)]) dX5_init_133 rfl (by decide) (by decide) rfl ?_
  refine ho_goto (tgt := 114) dX5_init_136 rfl ?_
  refine ho_iload_n (q := 0) dX5_init_114 rfl rfl ?_
  refine ho_bipush (v := 8) dX5_init_115 (by decide) ?_
  refine ho_icmp_ge (tgt := 139) dX5_init_117 rfl (fun h => absurd h (by decide)) (fun _ => ?_)
  refine ho_aload_n (q := 1) dX5_init_120 rfl rfl ?_
  refine ho_getr (j := b) fg_X5_11 dX5_init_121 (h0) (by omega) (nzo_mu (by decide) (nzo_ma (by decide) (nzo_mu (by decide) (nzo_ma (by decide) (nzo_mu (by decide) (nzo_ma (by decide) (nzs_mu (by decide) (nzs_mu (by decide) (nzs_mu (by decide) (nzs_mu (by decide) (nzs_mu (by decide) (nzs_mu (by decide) (nzs_mu (by decide) (nzs_mu (by decide) (nzs_mu (by decide) (nzs_mu (by decide) (nzs_mu (by decide) (nzs_mu (by decide) (nzs_mu (by decide) (nzo_mu (by decide) (nzo_mu (by decide) (nzo_mu (by decide) (nzo_ma (by decide) (nzs_mu (by decide) (nzo_ma (by decide) (nzs_mu (by decide) (nzo_ma (by decide) (nzh_mu (by decide))))))))))))))))))))))))))))) ?_
  refine ho_iload_n (q := 0) dX5_init_124 rfl rfl ?_
  refine ho_new (r := 3) (i := (8 * w + 3)) (d := 0) (K := (b + 13)) (hri_KI (by decide) (Nat.le_refl _)) (by omega) (hr 3 (by decide)) nc_X5_9 dX5_init_125 ?_
  refine ho_dup dX5_init_128 rfl ?_
  refine ho_initNE (r := 3) (i := (8 * w + 3)) (As := []) mi_X2_init (d := 1) (K := (b + 13)) (hri_KI (by decide) (Nat.le_refl _)) (by omega) (by omega) (fun s h => h.2.1) dX5_init_129 rfl rfl (Nat.le_of_ble_eq_true rfl) (ci_X2 _) ?_
  refine ho_aast (j := 3) (j0 := b + 1) (j1 := b + 1 + 1 + 1 + 1 + 1 + 1 + 1 + 1) rfl (by decide) rfl rfl dX5_init_132 (h1) (by omega) (hr 3 (by decide)) (by omega) (by decide) (by decide) rfl ?_
  refine ho_iinc (q := 0) (x := 3) (y := 1) (al1 := [(2, aI 4), (0, aR 2 w), (1, aR 1 0)]) dX5_init_133 rfl (by decide) (by decide) rfl ?_
  refine ho_goto (tgt := 114) dX5_init_136 rfl ?_
  refine ho_iload_n (q := 0) dX5_init_114 rfl rfl ?_
  refine ho_bipush (v := 8) dX5_init_115 (by decide) ?_
  refine ho_icmp_ge (tgt := 139) dX5_init_117 rfl (fun h => absurd h (by decide)) (fun _ => ?_)
  refine ho_aload_n (q := 1) dX5_init_120 rfl rfl ?_
  refine ho_getr (j := b) fg_X5_11 dX5_init_121 (h0) (by omega) (nzo_mu (by decide) (nzo_ma (by decide) (nzo_mu (by decide) (nzo_ma (by decide) (nzo_mu (by decide) (nzo_ma (by decide) (nzo_mu (by decide) (nzo_ma (by decide) (nzs_mu (by decide) (nzs_mu (by decide) (nzs_mu (by decide) (nzs_mu (by decide) (nzs_mu (by decide) (nzs_mu (by decide) (nzs_mu (by decide) (nzs_mu (by decide) (nzs_mu (by decide) (nzs_mu (by decide) (nzs_mu (by decide) (nzs_mu (by decide) (nzs_mu (by decide) (nzo_mu (by decide) (nzo_mu (by decide) (nzo_mu (by decide) (nzo_ma (by decide) (nzs_mu (by decide) (nzo_ma (by decide) (nzs_mu (by decide) (nzo_ma (by decide) (nzh_mu (by decide))))))))))))))))))))))))))))))) ?_
  refine ho_iload_n (q := 0) dX5_init_124 rfl rfl ?_
  refine ho_new (r := 3) (i := (8 * w + 4)) (d := 0) (K := (b + 13)) (hri_KI (by decide) (Nat.le_refl _)) (by omega) (hr 4 (by decide)) nc_X5_9 dX5_init_125 ?_
  refine ho_dup dX5_init_128 rfl ?_
  refine ho_initNE (r := 3) (i := (8 * w + 4)) (As := []) mi_X2_init (d := 1) (K := (b + 13)) (hri_KI (by decide) (Nat.le_refl _)) (by omega) (by omega) (fun s h => h.2.1) dX5_init_129 rfl rfl (Nat.le_of_ble_eq_true rfl) (ci_X2 _) ?_
  refine ho_aast (j := 4) (j0 := b + 1) (j1 := b + 1 + 1 + 1 + 1 + 1 + 1 + 1 + 1 + 1) rfl (by decide) rfl rfl dX5_init_132 (h1) (by omega) (hr 4 (by decide)) (by omega) (by decide) (by decide) rfl ?_
  refine ho_iinc (q := 0) (x := 4) (y := 1) (al1 := [(2, aI 5), (0, aR 2 w), (1, aR 1 0)]) dX5_init_133 rfl (by decide) (by decide) rfl ?_
  refine ho_goto (tgt := 114) dX5_init_136 rfl ?_
  refine ho_iload_n (q := 0) dX5_init_114 rfl rfl ?_
  refine ho_bipush (v := 8) dX5_init_115 (by decide) ?_
  refine ho_icmp_ge (tgt := 139) dX5_init_117 rfl (fun h => absurd h (by decide)) (fun _ => ?_)
  refine ho_aload_n (q := 1) dX5_init_120 rfl rfl ?_
  refine ho_getr (j := b) fg_X5_11 dX5_init_121 (h0) (by omega) (nzo_mu (by decide) (nzo_ma (by decide) (nzo_mu (by decide) (nzo_ma (by decide) (nzo_mu (by decide) (nzo_ma (by decide) (nzo_mu (by decide) (nzo_ma (by decide) (nzo_mu (by decide) (nzo_ma (by decide) (nzs_mu (by decide) (nzs_mu (by decide) (nzs_mu (by decide) (nzs_mu (by decide) (nzs_mu (by decide) (nzs_mu (by decide) (nzs_mu (by decide) (nzs_mu (by decide) (nzs_mu (by decide) (nzs_mu (by decide) (nzs_mu (by decide) (nzs_mu (by decide) (nzs_mu (by decide) (nzo_mu (by decide) (nzo_mu (by decide) (nzo_mu (by decide) (nzo_ma (by decide) (nzs_mu (by decide) (nzo_ma (by decide) (nzs_mu (by decide) (nzo_ma (by decide) (nzh_mu (by decide))))))))))))))))))))))))))))))))) ?_
  refine ho_iload_n (q := 0) dX5_init_124 rfl rfl ?_
  refine ho_new (r := 3) (i := (8 * w + 5)) (d := 0) (K := (b + 13)) (hri_KI (by decide) (Nat.le_refl _)) (by omega) (hr 5 (by decide)) nc_X5_9 dX5_init_125 ?_
  refine ho_dup dX5_init_128 rfl ?_
  refine ho_initNE (r := 3) (i := (8 * w + 5)) (As := []) mi_X2_init (d := 1) (K := (b + 13)) (hri_KI (by decide) (Nat.le_refl _)) (by omega) (by omega) (fun s h => h.2.1) dX5_init_129 rfl rfl (Nat.le_of_ble_eq_true rfl) (ci_X2 _) ?_
  refine ho_aast (j := 5) (j0 := b + 1) (j1 := b + 1 + 1 + 1 + 1 + 1 + 1 + 1 + 1 + 1 + 1) rfl (by decide) rfl rfl dX5_init_132 (h1) (by omega) (hr 5 (by decide)) (by omega) (by decide) (by decide) rfl ?_
  refine ho_iinc (q := 0) (x := 5) (y := 1) (al1 := [(2, aI 6), (0, aR 2 w), (1, aR 1 0)]) dX5_init_133 rfl (by decide) (by decide) rfl ?_
  refine ho_goto (tgt := 114) dX5_init_136 rfl ?_
  refine ho_iload_n (q := 0) dX5_init_114 rfl rfl ?_
  refine ho_bipush (v := 8) dX5_init_115 (by decide) ?_
  refine ho_icmp_ge (tgt := 139) dX5_init_117 rfl (fun h => absurd h (by decide)) (fun _ => ?_)
  refine ho_aload_n (q := 1) dX5_init_120 rfl rfl ?_
  refine ho_getr (j := b) fg_X5_11 dX5_init_121 (h0) (by omega) (nzo_mu (by decide) (nzo_ma (by decide) (nzo_mu (by decide) (nzo_ma (by decide) (nzo_mu (by decide) (nzo_ma (by decide) (nzo_mu (by decide) (nzo_ma (by decide) (nzo_mu (by decide) (nzo_ma (by decide) (nzo_mu (by decide) (nzo_ma (by decide) (nzs_mu (by decide) (nzs_mu (by decide) (nzs_mu (by decide) (nzs_mu (by decide) (nzs_mu (by decide) (nzs_mu (by decide) (nzs_mu (by decide) (nzs_mu (by decide) (nzs_mu (by decide) (nzs_mu (by decide) (nzs_mu (by decide) (nzs_mu (by decide) (nzs_mu (by decide) (nzo_mu (by decide) (nzo_mu (by decide) (nzo_mu (by decide) (nzo_ma (by decide) (nzs_mu (by decide) (nzo_ma (by decide) (nzs_mu (by decide) (nzo_ma (by decide) (nzh_mu (by decide))))))))))))))))))))))))))))))))))) ?_
  refine ho_iload_n (q := 0) dX5_init_124 rfl rfl ?_
  refine ho_new (r := 3) (i := (8 * w + 6)) (d := 0) (K := (b + 13)) (hri_KI (by decide) (Nat.le_refl _)) (by omega) (hr 6 (by decide)) nc_X5_9 dX5_init_125 ?_
  refine ho_dup dX5_init_128 rfl ?_
  refine ho_initNE (r := 3) (i := (8 * w + 6)) (As := []) mi_X2_init (d := 1) (K := (b + 13)) (hri_KI (by decide) (Nat.le_refl _)) (by omega) (by omega) (fun s h => h.2.1) dX5_init_129 rfl rfl (Nat.le_of_ble_eq_true rfl) (ci_X2 _) ?_
  refine ho_aast (j := 6) (j0 := b + 1) (j1 := b + 1 + 1 + 1 + 1 + 1 + 1 + 1 + 1 + 1 + 1 + 1) rfl (by decide) rfl rfl dX5_init_132 (h1) (by omega) (hr 6 (by decide)) (by omega) (by decide) (by decide) rfl ?_
  refine ho_iinc (q := 0) (x := 6) (y := 1) (al1 := [(2, aI 7), (0, aR 2 w), (1, aR 1 0)]) dX5_init_133 rfl (by decide) (by decide) rfl ?_
  refine ho_goto (tgt := 114) dX5_init_136 rfl ?_
  refine ho_iload_n (q := 0) dX5_init_114 rfl rfl ?_
  refine ho_bipush (v := 8) dX5_init_115 (by decide) ?_
  refine ho_icmp_ge (tgt := 139) dX5_init_117 rfl (fun h => absurd h (by decide)) (fun _ => ?_)
  refine ho_aload_n (q := 1) dX5_init_120 rfl rfl ?_
  refine ho_getr (j := b) fg_X5_11 dX5_init_121 (h0) (by omega) (nzo_mu (by decide) (nzo_ma (by decide) (nzo_mu (by decide) (nzo_ma (by decide) (nzo_mu (by decide) (nzo_ma (by decide) (nzo_mu (by decide) (nzo_ma (by decide) (nzo_mu (by decide) (nzo_ma (by decide) (nzo_mu (by decide) (nzo_ma (by decide) (nzo_mu (by decide) (nzo_ma (by decide) (nzs_mu (by decide) (nzs_mu (by decide) (nzs_mu (by decide) (nzs_mu (by decide) (nzs_mu (by decide) (nzs_mu (by decide) (nzs_mu (by decide) (nzs_mu (by decide) (nzs_mu (by decide) (nzs_mu (by decide) (nzs_mu (by decide) (nzs_mu (by decide) (nzs_mu (by decide) (nzo_mu (by decide) (nzo_mu (by decide) (nzo_mu (by decide) (nzo_ma (by decide) (nzs_mu (by decide) (nzo_ma (by decide) (nzs_mu (by decide) (nzo_ma (by decide) (nzh_mu (by decide))))))))))))))))))))))))))))))))))))) ?_
  refine ho_iload_n (q := 0) dX5_init_124 rfl rfl ?_
  refine ho_new (r := 3) (i := (8 * w + 7)) (d := 0) (K := (b + 13)) (hri_KI (by decide) (Nat.le_refl _)) (by omega) (hr 7 (by decide)) nc_X5_9 dX5_init_125 ?_
  refine ho_dup dX5_init_128 rfl ?_
  refine ho_initNE (r := 3) (i := (8 * w + 7)) (As := []) mi_X2_init (d := 1) (K := (b + 13)) (hri_KI (by decide) (Nat.le_refl _)) (by omega) (by omega) (fun s h => h.2.1) dX5_init_129 rfl rfl (Nat.le_of_ble_eq_true rfl) (ci_X2 _) ?_
  refine ho_aast (j := 7) (j0 := b + 1) (j1 := b + 1 + 1 + 1 + 1 + 1 + 1 + 1 + 1 + 1 + 1 + 1 + 1) rfl (by decide) rfl rfl dX5_init_132 (h1) (by omega) (hr 7 (by decide)) (by omega) (by decide) (by decide) rfl ?_
  refine ho_iinc (q := 0) (x := 7) (y := 1) (al1 := [(2, aI 8), (0, aR 2 w), (1, aR 1 0)]) dX5_init_133 rfl (by decide) (by decide) rfl ?_
  refine ho_goto (tgt := 114) dX5_init_136 rfl ?_
  refine ho_iload_n (q := 0) dX5_init_114 rfl rfl ?_
  refine ho_bipush (v := 8) dX5_init_115 (by decide) ?_
  refine ho_icmp_ge (tgt := 139) dX5_init_117 rfl (fun _ => ?_) (fun h => absurd (by decide) h)
  refine ho_vret dX5_init_139 rfl
def fX6 (V : Mem) : Mem := (mu (fX4 4 (ma (mu (fX4 3 (ma (mu (fX4 2 (ma (mu (fX4 1 (ma (mu (fX4 0 (ma (mu (fX3 3 (ma (mu (fX3 2 (ma (mu (fX3 1 (ma (mu (fX3 0 (ma (mu (ma (mu (mu (ma (mu (ma (mu (ma (mu (fX1 (ma (mu (mu (ma (mu (mu (fX5 2 (ma (mu (fX5 1 (ma (mu (fX5 0 (ma (mu (fX0 (ma V 1 0 (fun _ => 0))) 0 0 0 1) 2 0 (fun _ => 0))) 0 0 1 1) 2 1 (fun _ => 0))) 0 0 2 1) 2 2 (fun _ => 0))) 0 0 3 1) 0 0 4 0) 17 0 (fun _ => 0)) 0 0 5 1) 0 0 6 0) 6 0 (fun _ => 0))) 0 0 7 1) 19 0 (fun _ => 0)) 0 0 8 1) 20 0 (fun _ => 0)) 0 0 9 1) 21 0 (fun _ => 0)) 0 0 10 1) 0 0 11 0) 22 0 (fun _ => 0)) 0 0 12 1) 4 0 (fun _ => 0))) 19 0 0 1) 4 1 (fun _ => 0))) 19 0 1 1) 4 2 (fun _ => 0))) 19 0 2 1) 4 3 (fun _ => 0))) 19 0 3 1) 5 0 (fun _ => 0))) 20 0 0 1) 5 1 (fun _ => 0))) 20 0 1 1) 5 2 (fun _ => 0))) 20 0 2 1) 5 3 (fun _ => 0))) 20 0 3 1) 5 4 (fun _ => 0))) 20 0 4 1)
theorem ci_X6 (V : Mem) : Ci 3 mX6_init [aR 0 0] 1 V 95 (fun V' => V' = fX6 V) := by
  refine ci_of [(0, aR 0 0)] (by decide) (fun _ => Nat.le_of_ble_eq_true rfl) (fun _ => rfl) rfl rfl ?_
  refine ho_aload_n (q := 0) dX6_init_0 rfl rfl ?_
  refine ho_obj (d := 0) (K := 95) (hri_KI (by decide) (Nat.le_refl _)) oi_X6 oi_1 oi_2 dX6_init_1 ?_
  refine ho_aload_n (q := 0) dX6_init_4 rfl rfl ?_
  refine ho_new (r := 1) (i := 0) (d := 0) (K := 95) (hri_KI (by decide) (Nat.le_refl _)) (by omega) (rfl) nc_X6_7 dX6_init_5 ?_
  refine ho_dup dX6_init_8 rfl ?_
  refine ho_initNE (r := 1) (i := 0) (As := []) mi_X0_init (d := 1) (K := 95) (hri_KI (by decide) (Nat.le_refl _)) (by omega) (by omega) (fun s h => h.1) dX6_init_9 rfl rfl (Nat.le_of_ble_eq_true rfl) (ci_X0 _) ?_
  refine ho_putr (j := 0) hni_KI ff_X6_10 dX6_init_12 (rfl) (by omega) rfl ?_
  refine ho_aload_n (q := 0) dX6_init_15 rfl rfl ?_
  refine ho_new (r := 2) (i := 0) (d := 0) (K := 95) (hri_KI (by decide) (Nat.le_refl _)) (by omega) (rfl) nc_X6_16 dX6_init_16 ?_
  refine ho_dup dX6_init_19 rfl ?_
  refine ho_aload_n (q := 0) dX6_init_20 rfl rfl ?_
  refine ho_getr (j := 0) fg_X6_10 dX6_init_21 (rfl) (by omega) (by show ¬ ((1 : Int32) = 0); decide) ?_
  refine ho_initE (r := 2) (i := 0) (As := [aR 1 0]) mi_X5_init (d := 2) (K := 95) (hri_KI (by decide) (Nat.le_refl _)) (by omega) (by omega) ml_X6_18 dX6_init_24 rfl rfl (Nat.le_of_ble_eq_true rfl) (ci_X5 (w := 0) (b := 21) _ rfl rfl rfl rfl rfl (by decide)) ?_
  refine ho_putr (j := 0) hni_KI ff_X6_21 dX6_init_27 (rfl) (by omega) rfl ?_
  refine ho_aload_n (q := 0) dX6_init_30 rfl rfl ?_
  refine ho_new (r := 2) (i := 1) (d := 0) (K := 95) (hri_KI (by decide) (Nat.le_refl _)) (by omega) (rfl) nc_X6_16 dX6_init_31 ?_
  refine ho_dup dX6_init_34 rfl ?_
  refine ho_aload_n (q := 0) dX6_init_35 rfl rfl ?_
  refine ho_getr (j := 0) fg_X6_10 dX6_init_36 (rfl) (by omega) (by show ¬ ((1 : Int32) = 0); decide) ?_
  refine ho_initE (r := 2) (i := 1) (As := [aR 1 0]) mi_X5_init (d := 2) (K := 95) (hri_KI (by decide) (Nat.le_refl _)) (by omega) (by omega) ml_X6_18 dX6_init_39 rfl rfl (Nat.le_of_ble_eq_true rfl) (ci_X5 (w := 1) (b := 34) _ rfl rfl rfl rfl rfl (by decide)) ?_
  refine ho_putr (j := 0) hni_KI ff_X6_25 dX6_init_42 (rfl) (by omega) rfl ?_
  refine ho_aload_n (q := 0) dX6_init_45 rfl rfl ?_
  refine ho_new (r := 2) (i := 2) (d := 0) (K := 95) (hri_KI (by decide) (Nat.le_refl _)) (by omega) (rfl) nc_X6_16 dX6_init_46 ?_
  refine ho_dup dX6_init_49 rfl ?_
  refine ho_aload_n (q := 0) dX6_init_50 rfl rfl ?_
  refine ho_getr (j := 0) fg_X6_10 dX6_init_51 (rfl) (by omega) (by show ¬ ((1 : Int32) = 0); decide) ?_
  refine ho_initE (r := 2) (i := 2) (As := [aR 1 0]) mi_X5_init (d := 2) (K := 95) (hri_KI (by decide) (Nat.le_refl _)) (by omega) (by omega) ml_X6_18 dX6_init_54 rfl rfl (Nat.le_of_ble_eq_true rfl) (ci_X5 (w := 2) (b := 47) _ rfl rfl rfl rfl rfl (by decide)) ?_
  refine ho_putr (j := 0) hni_KI ff_X6_28 dX6_init_57 (rfl) (by omega) rfl ?_
  refine ho_aload_n (q := 0) dX6_init_60 rfl rfl ?_
  refine ho_iconst (v := 0) dX6_init_61 (by decide) ?_
  refine ho_put (ty := .boolean) (j := 0) fp_X6_31 dX6_init_62 (rfl) (by omega) rfl rfl ?_
  refine ho_aload_n (q := 0) dX6_init_65 rfl rfl ?_
  refine ho_bipush (v := 96) dX6_init_66 (by decide) ?_
  refine ho_newa (atype := .int) (r := 17) (i := 0) (n := 96) (d := 0) (K := 95) (hri_KI (by decide) (Nat.le_refl _)) (by omega) (rfl) rfl ay_int (by decide) (by decide) (by decide) rfl (by intro C h; cases h) dX6_init_68 ?_
  refine ho_putr (j := 0) hni_KI ff_X6_35 dX6_init_70 (rfl) (by omega) rfl ?_
  refine ho_aload_n (q := 0) dX6_init_73 rfl rfl ?_
  refine ho_iconst (v := 0) dX6_init_74 (by decide) ?_
  refine ho_puti (j := 0) fp_X6_39 dX6_init_75 (rfl) (by omega) ?_
  refine ho_aload_n (q := 0) dX6_init_78 rfl rfl ?_
  refine ho_new (r := 6) (i := 0) (d := 0) (K := 95) (hri_KI (by decide) (Nat.le_refl _)) (by omega) (rfl) nc_X6_43 dX6_init_79 ?_
  refine ho_dup dX6_init_82 rfl ?_
  refine ho_aload_n (q := 0) dX6_init_83 rfl rfl ?_
  refine ho_getr (j := 0) fg_X6_35 dX6_init_84 (rfl) (by omega) (by show ¬ ((1 : Int32) = 0); decide) ?_
  refine ho_initE (r := 6) (i := 0) (As := [aR 17 0]) mi_X1_init (d := 1) (K := 95) (hri_KI (by decide) (Nat.le_refl _)) (by omega) (by omega) ml_X6_45 dX6_init_87 rfl rfl (Nat.le_of_ble_eq_true rfl) (ci_X1 _) ?_
  refine ho_putr (j := 0) hni_KI ff_X6_48 dX6_init_90 (rfl) (by omega) rfl ?_
  refine ho_aload_n (q := 0) dX6_init_93 rfl rfl ?_
  refine ho_iconst (v := 4) dX6_init_94 (by decide) ?_
  refine ho_newq (r := 19) (i := 0) (n := 4) (d := 0) (K := 95) (hri_KI (by decide) (Nat.le_refl _)) (by omega) (rfl) rfl cl_X6_52 (fun s h => h.2.2.2.2.2.2.2.1) (by decide) (by decide) dX6_init_95 ?_
  refine ho_putr (j := 0) hni_KI ff_X6_54 dX6_init_98 (rfl) (by omega) rfl ?_
  refine ho_aload_n (q := 0) dX6_init_101 rfl rfl ?_
  refine ho_iconst (v := 5) dX6_init_102 (by decide) ?_
  refine ho_newq (r := 20) (i := 0) (n := 5) (d := 0) (K := 95) (hri_KI (by decide) (Nat.le_refl _)) (by omega) (rfl) rfl cl_X6_58 (fun s h => h.2.2.2.2.2.2.2.2.1) (by decide) (by decide) dX6_init_103 ?_
  refine ho_putr (j := 0) hni_KI ff_X6_60 dX6_init_106 (rfl) (by omega) rfl ?_
  refine ho_aload_n (q := 0) dX6_init_109 rfl rfl ?_
  refine ho_bipush (v := 60) dX6_init_110 (by decide) ?_
  refine ho_newa (atype := .int) (r := 21) (i := 0) (n := 60) (d := 0) (K := 95) (hri_KI (by decide) (Nat.le_refl _)) (by omega) (rfl) rfl ay_int (by decide) (by decide) (by decide) rfl (by intro C h; cases h) dX6_init_112 ?_
  refine ho_putr (j := 0) hni_KI ff_X6_64 dX6_init_114 (rfl) (by omega) rfl ?_
  refine ho_aload_n (q := 0) dX6_init_117 rfl rfl ?_
  refine ho_iconst (v := 0) dX6_init_118 (by decide) ?_
  refine ho_puti (j := 0) fp_X6_67 dX6_init_119 (rfl) (by omega) ?_
  refine ho_aload_n (q := 0) dX6_init_122 rfl rfl ?_
  refine ho_bipush (v := 8) dX6_init_123 (by decide) ?_
  refine ho_newa (atype := .int) (r := 22) (i := 0) (n := 8) (d := 0) (K := 95) (hri_KI (by decide) (Nat.le_refl _)) (by omega) (rfl) rfl ay_int (by decide) (by decide) (by decide) rfl (by intro C h; cases h) dX6_init_125 ?_
  refine ho_putr (j := 0) hni_KI ff_X6_70 dX6_init_127 (rfl) (by omega) rfl ?_
  refine ho_iconst (v := 0) dX6_init_130 (by decide) ?_
  refine ho_istore_n (al1 := [(1, aI 0), (0, aR 0 0)]) dX6_init_131 rfl (by decide) rfl ?_
  refine ho_iload_n (q := 0) dX6_init_132 rfl rfl ?_
  refine ho_iconst (v := 4) dX6_init_133 (by decide) ?_
  refine ho_icmp_ge (tgt := 156) dX6_init_134 rfl (fun h => absurd h (by decide)) (fun _ => ?_)
  refine ho_aload_n (q := 1) dX6_init_137 rfl rfl ?_
  refine ho_getr (j := 0) fg_X6_54 dX6_init_138 (rfl) (by omega) (by show ¬ ((1 : Int32) = 0); decide) ?_
  refine ho_iload_n (q := 0) dX6_init_141 rfl rfl ?_
  refine ho_new (r := 4) (i := 0) (d := 0) (K := 95) (hri_KI (by decide) (Nat.le_refl _)) (by omega) (rfl) nc_X6_52 dX6_init_142 ?_
  refine ho_dup dX6_init_145 rfl ?_
  refine ho_initNE (r := 4) (i := 0) (As := []) mi_X3_init (d := 1) (K := 95) (hri_KI (by decide) (Nat.le_refl _)) (by omega) (by omega) (fun s h => h.2.2.1) dX6_init_146 rfl rfl (Nat.le_of_ble_eq_true rfl) (ci_X3 (i := 0) (k := 68) (j0 := 67) _ rfl (by decide) rfl) ?_
  refine ho_aast (j := 0) (j0 := 63) (j1 := 63 + 1 + 1 + 1 + 1) rfl (by decide) rfl rfl dX6_init_149 (rfl) (by omega) (rfl) (by omega) (by decide) (by decide) rfl ?_
  refine ho_iinc (q := 0) (x := 0) (y := 1) (al1 := [(1, aI 1), (0, aR 0 0)]) dX6_init_150 rfl (by decide) (by decide) rfl ?_
  refine ho_goto (tgt := 132) dX6_init_153 rfl ?_
  refine ho_iload_n (q := 0) dX6_init_132 rfl rfl ?_
  refine ho_iconst (v := 4) dX6_init_133 (by decide) ?_
  refine ho_icmp_ge (tgt := 156) dX6_init_134 rfl (fun h => absurd h (by decide)) (fun _ => ?_)
  refine ho_aload_n (q := 1) dX6_init_137 rfl rfl ?_
  refine ho_getr (j := 0) fg_X6_54 dX6_init_138 (rfl) (by omega) (by show ¬ ((1 : Int32) = 0); decide) ?_
  refine ho_iload_n (q := 0) dX6_init_141 rfl rfl ?_
  refine ho_new (r := 4) (i := 1) (d := 0) (K := 95) (hri_KI (by decide) (Nat.le_refl _)) (by omega) (rfl) nc_X6_52 dX6_init_142 ?_
  refine ho_dup dX6_init_145 rfl ?_
  refine ho_initNE (r := 4) (i := 1) (As := []) mi_X3_init (d := 1) (K := 95) (hri_KI (by decide) (Nat.le_refl _)) (by omega) (by omega) (fun s h => h.2.2.1) dX6_init_146 rfl rfl (Nat.le_of_ble_eq_true rfl) (ci_X3 (i := 1) (k := 70) (j0 := 69) _ rfl (by decide) rfl) ?_
  refine ho_aast (j := 1) (j0 := 63) (j1 := 69) rfl (by decide) rfl rfl dX6_init_149 (rfl) (by omega) (rfl) (by omega) (by decide) (by decide) rfl ?_
  refine ho_iinc (q := 0) (x := 1) (y := 1) (al1 := [(1, aI 2), (0, aR 0 0)]) dX6_init_150 rfl (by decide) (by decide) rfl ?_
  refine ho_goto (tgt := 132) dX6_init_153 rfl ?_
  refine ho_iload_n (q := 0) dX6_init_132 rfl rfl ?_
  refine ho_iconst (v := 4) dX6_init_133 (by decide) ?_
  refine ho_icmp_ge (tgt := 156) dX6_init_134 rfl (fun h => absurd h (by decide)) (fun _ => ?_)
  refine ho_aload_n (q := 1) dX6_init_137 rfl rfl ?_
  refine ho_getr (j := 0) fg_X6_54 dX6_init_138 (rfl) (by omega) (by show ¬ ((1 : Int32) = 0); decide) ?_
  refine ho_iload_n (q := 0) dX6_init_141 rfl rfl ?_
  refine ho_new (r := 4) (i := 2) (d := 0) (K := 95) (hri_KI (by decide) (Nat.le_refl _)) (by omega) (rfl) nc_X6_52 dX6_init_142 ?_
  refine ho_dup dX6_init_145 rfl ?_
  refine ho_initNE (r := 4) (i := 2) (As := []) mi_X3_init (d := 1) (K := 95) (hri_KI (by decide) (Nat.le_refl _)) (by omega) (by omega) (fun s h => h.2.2.1) dX6_init_146 rfl rfl (Nat.le_of_ble_eq_true rfl) (ci_X3 (i := 2) (k := 72) (j0 := 71) _ rfl (by decide) rfl) ?_
  refine ho_aast (j := 2) (j0 := 63) (j1 := 71) rfl (by decide) rfl rfl dX6_init_149 (rfl) (by omega) (rfl) (by omega) (by decide) (by decide) rfl ?_
  refine ho_iinc (q := 0) (x := 2) (y := 1) (al1 := [(1, aI 3), (0, aR 0 0)]) dX6_init_150 rfl (by decide) (by decide) rfl ?_
  refine ho_goto (tgt := 132) dX6_init_153 rfl ?_
  refine ho_iload_n (q := 0) dX6_init_132 rfl rfl ?_
  refine ho_iconst (v := 4) dX6_init_133 (by decide) ?_
  refine ho_icmp_ge (tgt := 156) dX6_init_134 rfl (fun h => absurd h (by decide)) (fun _ => ?_)
  refine ho_aload_n (q := 1) dX6_init_137 rfl rfl ?_
  refine ho_getr (j := 0) fg_X6_54 dX6_init_138 (rfl) (by omega) (by show ¬ ((1 : Int32) = 0); decide) ?_
  refine ho_iload_n (q := 0) dX6_init_141 rfl rfl ?_
  refine ho_new (r := 4) (i := 3) (d := 0) (K := 95) (hri_KI (by decide) (Nat.le_refl _)) (by omega) (rfl) nc_X6_52 dX6_init_142 ?_
  refine ho_dup dX6_init_145 rfl ?_
  refine ho_initNE (r := 4) (i := 3) (As := []) mi_X3_init (d := 1) (K := 95) (hri_KI (by decide) (Nat.le_refl _)) (by omega) (by omega) (fun s h => h.2.2.1) dX6_init_146 rfl rfl (Nat.le_of_ble_eq_true rfl) (ci_X3 (i := 3) (k := 74) (j0 := 73) _ rfl (by decide) rfl) ?_
  refine ho_aast (j := 3) (j0 := 63) (j1 := 73) rfl (by decide) rfl rfl dX6_init_149 (rfl) (by omega) (rfl) (by omega) (by decide) (by decide) rfl ?_
  refine ho_iinc (q := 0) (x := 3) (y := 1) (al1 := [(1, aI 4), (0, aR 0 0)]) dX6_init_150 rfl (by decide) (by decide) rfl ?_
  refine ho_goto (tgt := 132) dX6_init_153 rfl ?_
  refine ho_iload_n (q := 0) dX6_init_132 rfl rfl ?_
  refine ho_iconst (v := 4) dX6_init_133 (by decide) ?_
  refine ho_icmp_ge (tgt := 156) dX6_init_134 rfl (fun _ => ?_) (fun h => absurd (by decide) h)
  refine ho_iconst (v := 0) dX6_init_156 (by decide) ?_
  refine ho_istore_n (al1 := [(1, aI 0), (0, aR 0 0)]) dX6_init_157 rfl (by decide) rfl ?_
  refine ho_iload_n (q := 0) dX6_init_158 rfl rfl ?_
  refine ho_iconst (v := 5) dX6_init_159 (by decide) ?_
  refine ho_icmp_ge (tgt := 182) dX6_init_160 rfl (fun h => absurd h (by decide)) (fun _ => ?_)
  refine ho_aload_n (q := 1) dX6_init_163 rfl rfl ?_
  refine ho_getr (j := 0) fg_X6_60 dX6_init_164 (rfl) (by omega) (by show ¬ ((1 : Int32) = 0); decide) ?_
  refine ho_iload_n (q := 0) dX6_init_167 rfl rfl ?_
  refine ho_new (r := 5) (i := 0) (d := 0) (K := 95) (hri_KI (by decide) (Nat.le_refl _)) (by omega) (rfl) nc_X6_58 dX6_init_168 ?_
  refine ho_dup dX6_init_171 rfl ?_
  refine ho_initNE (r := 5) (i := 0) (As := []) mi_X4_init (d := 2) (K := 95) (hri_KI (by decide) (Nat.le_refl _)) (by omega) (by omega) (fun s h => h.2.2.2.1) dX6_init_172 rfl rfl (Nat.le_of_ble_eq_true rfl) (ci_X4 (i := 0) (b := 75) _ rfl rfl rfl rfl) ?_
  refine ho_aast (j := 0) (j0 := 63 + 1) (j1 := 75) rfl (by decide) rfl rfl dX6_init_175 (rfl) (by omega) (rfl) (by omega) (by decide) (by decide) rfl ?_
  refine ho_iinc (q := 0) (x := 0) (y := 1) (al1 := [(1, aI 1), (0, aR 0 0)]) dX6_init_176 rfl (by decide) (by decide) rfl ?_
  refine ho_goto (tgt := 158) dX6_init_179 rfl ?_
  refine ho_iload_n (q := 0) dX6_init_158 rfl rfl ?_
  refine ho_iconst (v := 5) dX6_init_159 (by decide) ?_
  refine ho_icmp_ge (tgt := 182) dX6_init_160 rfl (fun h => absurd h (by decide)) (fun _ => ?_)
  refine ho_aload_n (q := 1) dX6_init_163 rfl rfl ?_
  refine ho_getr (j := 0) fg_X6_60 dX6_init_164 (rfl) (by omega) (by show ¬ ((1 : Int32) = 0); decide) ?_
  refine ho_iload_n (q := 0) dX6_init_167 rfl rfl ?_
  refine ho_new (r := 5) (i := 1) (d := 0) (K := 95) (hri_KI (by decide) (Nat.le_refl _)) (by omega) (rfl) nc_X6_58 dX6_init_168 ?_
  refine ho_dup dX6_init_171 rfl ?_
  refine ho_initNE (r := 5) (i := 1) (As := []) mi_X4_init (d := 2) (K := 95) (hri_KI (by decide) (Nat.le_refl _)) (by omega) (by omega) (fun s h => h.2.2.2.1) dX6_init_172 rfl rfl (Nat.le_of_ble_eq_true rfl) (ci_X4 (i := 1) (b := 79) _ rfl rfl rfl rfl) ?_
  refine ho_aast (j := 1) (j0 := 63 + 1) (j1 := 79) rfl (by decide) rfl rfl dX6_init_175 (rfl) (by omega) (rfl) (by omega) (by decide) (by decide) rfl ?_
  refine ho_iinc (q := 0) (x := 1) (y := 1) (al1 := [(1, aI 2), (0, aR 0 0)]) dX6_init_176 rfl (by decide) (by decide) rfl ?_
  refine ho_goto (tgt := 158) dX6_init_179 rfl ?_
  refine ho_iload_n (q := 0) dX6_init_158 rfl rfl ?_
  refine ho_iconst (v := 5) dX6_init_159 (by decide) ?_
  refine ho_icmp_ge (tgt := 182) dX6_init_160 rfl (fun h => absurd h (by decide)) (fun _ => ?_)
  refine ho_aload_n (q := 1) dX6_init_163 rfl rfl ?_
  refine ho_getr (j := 0) fg_X6_60 dX6_init_164 (rfl) (by omega) (by show ¬ ((1 : Int32) = 0); decide) ?_
  refine ho_iload_n (q := 0) dX6_init_167 rfl rfl ?_
  refine ho_new (r := 5) (i := 2) (d := 0) (K := 95) (hri_KI (by decide) (Nat.le_refl _)) (by omega) (rfl) nc_X6_58 dX6_init_168 ?_
  refine ho_dup dX6_init_171 rfl ?_
  refine ho_initNE (r := 5) (i := 2) (As := []) mi_X4_init (d := 2) (K := 95) (hri_KI (by decide) (Nat.le_refl _)) (by omega) (by omega) (fun s h => h.2.2.2.1) dX6_init_172 rfl rfl (Nat.le_of_ble_eq_true rfl) (ci_X4 (i := 2) (b := 83) _ rfl rfl rfl rfl) ?_
  refine ho_aast (j := 2) (j0 := 63 + 1) (j1 := 83) rfl (by decide) rfl rfl dX6_init_175 (rfl) (by omega) (rfl) (by omega) (by decide) (by decide) rfl ?_
  refine ho_iinc (q := 0) (x := 2) (y := 1) (al1 := [(1, aI 3), (0, aR 0 0)]) dX6_init_176 rfl (by decide) (by decide) rfl ?_
  refine ho_goto (tgt := 158) dX6_init_179 rfl ?_
  refine ho_iload_n (q := 0) dX6_init_158 rfl rfl ?_
  refine ho_iconst (v := 5) dX6_init_159 (by decide) ?_
  refine ho_icmp_ge (tgt := 182) dX6_init_160 rfl (fun h => absurd h (by decide)) (fun _ => ?_)
  refine ho_aload_n (q := 1) dX6_init_163 rfl rfl ?_
  refine ho_getr (j := 0) fg_X6_60 dX6_init_164 (rfl) (by omega) (by show ¬ ((1 : Int32) = 0); decide) ?_
  refine ho_iload_n (q := 0) dX6_init_167 rfl rfl ?_
  refine ho_new (r := 5) (i := 3) (d := 0) (K := 95) (hri_KI (by decide) (Nat.le_refl _)) (by omega) (rfl) nc_X6_58 dX6_init_168 ?_
  refine ho_dup dX6_init_171 rfl ?_
  refine ho_initNE (r := 5) (i := 3) (As := []) mi_X4_init (d := 2) (K := 95) (hri_KI (by decide) (Nat.le_refl _)) (by omega) (by omega) (fun s h => h.2.2.2.1) dX6_init_172 rfl rfl (Nat.le_of_ble_eq_true rfl) (ci_X4 (i := 3) (b := 87) _ rfl rfl rfl rfl) ?_
  refine ho_aast (j := 3) (j0 := 63 + 1) (j1 := 87) rfl (by decide) rfl rfl dX6_init_175 (rfl) (by omega) (rfl) (by omega) (by decide) (by decide) rfl ?_
  refine ho_iinc (q := 0) (x := 3) (y := 1) (al1 := [(1, aI 4), (0, aR 0 0)]) dX6_init_176 rfl (by decide) (by decide) rfl ?_
  refine ho_goto (tgt := 158) dX6_init_179 rfl ?_
  refine ho_iload_n (q := 0) dX6_init_158 rfl rfl ?_
  refine ho_iconst (v := 5) dX6_init_159 (by decide) ?_
  refine ho_icmp_ge (tgt := 182) dX6_init_160 rfl (fun h => absurd h (by decide)) (fun _ => ?_)
  refine ho_aload_n (q := 1) dX6_init_163 rfl rfl ?_
  refine ho_getr (j := 0) fg_X6_60 dX6_init_164 (rfl) (by omega) (by show ¬ ((1 : Int32) = 0); decide) ?_
  refine ho_iload_n (q := 0) dX6_init_167 rfl rfl ?_
  refine ho_new (r := 5) (i := 4) (d := 0) (K := 95) (hri_KI (by decide) (Nat.le_refl _)) (by omega) (rfl) nc_X6_58 dX6_init_168 ?_
  refine ho_dup dX6_init_171 rfl ?_
  refine ho_initNE (r := 5) (i := 4) (As := []) mi_X4_init (d := 2) (K := 95) (hri_KI (by decide) (Nat.le_refl _)) (by omega) (by omega) (fun s h => h.2.2.2.1) dX6_init_172 rfl rfl (Nat.le_of_ble_eq_true rfl) (ci_X4 (i := 4) (b := 91) _ rfl rfl rfl rfl) ?_
  refine ho_aast (j := 4) (j0 := 63 + 1) (j1 := 91) rfl (by decide) rfl rfl dX6_init_175 (rfl) (by omega) (rfl) (by omega) (by decide) (by decide) rfl ?_
  refine ho_iinc (q := 0) (x := 4) (y := 1) (al1 := [(1, aI 5), (0, aR 0 0)]) dX6_init_176 rfl (by decide) (by decide) rfl ?_
  refine ho_goto (tgt := 158) dX6_init_179 rfl ?_
  refine ho_iload_n (q := 0) dX6_init_158 rfl rfl ?_
  refine ho_iconst (v := 5) dX6_init_159 (by decide) ?_
  refine ho_icmp_ge (tgt := 182) dX6_init_160 rfl (fun _ => ?_) (fun h => absurd (by decide) h)
  refine ho_vret dX6_init_182 rfl
def fX7 (V : Mem) : Mem := (mu (mu (mu (ma (mu (ma (mu (ma (mu (ma (mu (ma (mu (ma (mu (ma (mu (ma (mu (mu (mu (mu (mu (ma (mu (ma (mu (ma (mu (ma (mu (ma (mu (ma (mu (mu (mu (mu (mu (ma (mu (mu (mu (mu (mu (mu (mu (mu (mu (mu (mu (mu (mu (mu (ma (mu (ma (mu (ma (mu (ma (mu (ma (mu (ma V 25 0 (fun _ => 0)) 24 0 0 1) 26 0 (fun _ => 0)) 24 0 1 1) 27 0 (fun _ => 0)) 24 0 2 1) 28 0 (fun _ => 0)) 24 0 4 1) 29 0 (fun _ => 0)) 24 0 5 1) 30 0 (fun _ => 0)) 30 0 0 109) 30 0 1 101) 30 0 2 108) 30 0 3 116) 30 0 4 111) 30 0 5 119) 30 0 6 110) 30 0 7 101) 30 0 8 114) 30 0 9 102) 30 0 10 105) 30 0 11 110) 30 0 12 101) 24 0 13 1) 31 0 (fun _ => 0)) 31 0 0 0) 31 0 1 4) 31 0 2 9) 31 0 3 13) 24 0 14 1) 32 0 (fun _ => 0)) 24 0 15 1) 33 0 (fun _ => 0)) 24 0 18 1) 34 0 (fun _ => 0)) 24 0 20 1) 35 0 (fun _ => 0)) 24 0 21 1) 36 0 (fun _ => 0)) 24 0 22 1) 37 0 (fun _ => 0)) 37 0 0 (-1)) 37 0 1 (-1)) 37 0 2 (-1)) 37 0 3 (-1)) 24 0 23 1) 38 0 (fun _ => 0)) 24 0 24 1) 39 0 (fun _ => 0)) 24 0 25 1) 40 0 (fun _ => 0)) 24 0 26 1) 41 0 (fun _ => 0)) 24 0 27 1) 42 0 (fun _ => 0)) 24 0 28 1) 43 0 (fun _ => 0)) 24 0 29 1) 44 0 (fun _ => 0)) 24 0 30 1) 45 0 (fun _ => 0)) 24 0 31 1) 25 0 0 1) 25 0 3 18)
theorem ci_X7 (V : Mem) : Ci 1 mX7_init [aR 24 0] 96 V 117 (fun V' => V' = fX7 V) := by
  refine ci_of [(0, aR 24 0)] (by decide) (fun _ => Nat.le_of_ble_eq_true rfl) (fun _ => rfl) rfl rfl ?_
  refine ho_aload_n (q := 0) dX7_init_0 rfl rfl ?_
  refine ho_obj (d := 0) (K := 117) (hri_KI (by decide) (Nat.le_refl _)) oi_X7 oi_1 oi_2 dX7_init_1 ?_
  refine ho_aload_n (q := 0) dX7_init_4 rfl rfl ?_
  refine ho_sipush (v := 1479) dX7_init_5 (by decide) ?_
  refine ho_newa (atype := .int) (r := 25) (i := 0) (n := 1479) (d := 0) (K := 117) (hri_KI (by decide) (Nat.le_refl _)) (by omega) (rfl) rfl ay_int (by decide) (by decide) (by decide) rfl (by intro C h; cases h) dX7_init_8 ?_
  refine ho_putr (j := 95) hni_KI ff_X7_9 dX7_init_10 (rfl) (by omega) rfl ?_
  refine ho_aload_n (q := 0) dX7_init_13 rfl rfl ?_
  refine ho_sipush (v := 1479) dX7_init_14 (by decide) ?_
  refine ho_newa (atype := .int) (r := 26) (i := 0) (n := 1479) (d := 0) (K := 117) (hri_KI (by decide) (Nat.le_refl _)) (by omega) (rfl) rfl ay_int (by decide) (by decide) (by decide) rfl (by intro C h; cases h) dX7_init_17 ?_
  refine ho_putr (j := 95) hni_KI ff_X7_13 dX7_init_19 (rfl) (by omega) rfl ?_
  refine ho_aload_n (q := 0) dX7_init_22 rfl rfl ?_
  refine ho_sipush (v := 1479) dX7_init_23 (by decide) ?_
  refine ho_newa (atype := .int) (r := 27) (i := 0) (n := 1479) (d := 0) (K := 117) (hri_KI (by decide) (Nat.le_refl _)) (by omega) (rfl) rfl ay_int (by decide) (by decide) (by decide) rfl (by intro C h; cases h) dX7_init_26 ?_
  refine ho_putr (j := 95) hni_KI ff_X7_16 dX7_init_28 (rfl) (by omega) rfl ?_
  refine ho_aload_n (q := 0) dX7_init_31 rfl rfl ?_
  refine ho_bipush (v := 107) dX7_init_32 (by decide) ?_
  refine ho_newa (atype := .int) (r := 28) (i := 0) (n := 107) (d := 0) (K := 117) (hri_KI (by decide) (Nat.le_refl _)) (by omega) (rfl) rfl ay_int (by decide) (by decide) (by decide) rfl (by intro C h; cases h) dX7_init_34 ?_
  refine ho_putr (j := 95) hni_KI ff_X7_19 dX7_init_36 (rfl) (by omega) rfl ?_
  refine ho_aload_n (q := 0) dX7_init_39 rfl rfl ?_
  refine ho_bipush (v := 96) dX7_init_40 (by decide) ?_
  refine ho_newa (atype := .int) (r := 29) (i := 0) (n := 96) (d := 0) (K := 117) (hri_KI (by decide) (Nat.le_refl _)) (by omega) (rfl) rfl ay_int (by decide) (by decide) (by decide) rfl (by intro C h; cases h) dX7_init_42 ?_
  refine ho_putr (j := 95) hni_KI ff_X7_22 dX7_init_44 (rfl) (by omega) rfl ?_
  refine ho_aload_n (q := 0) dX7_init_47 rfl rfl ?_
  refine ho_bipush (v := 13) dX7_init_48 (by decide) ?_
  refine ho_newa (atype := .char) (r := 30) (i := 0) (n := 13) (d := 0) (K := 117) (hri_KI (by decide) (Nat.le_refl _)) (by omega) (rfl) rfl ay_char (by decide) (by decide) (by decide) rfl (by intro C h; cases h) dX7_init_50 ?_
  refine ho_dup dX7_init_52 rfl ?_
  refine ho_iconst (v := 0) dX7_init_53 (by decide) ?_
  refine ho_bipush (v := 109) dX7_init_54 (by decide) ?_
  refine ho_cast (j := 0) (j0 := 96 + 1 + 1 + 1 + 1 + 1) (u := 109) rfl (by decide) dX7_init_56 (rfl) (by omega) (by decide) (by decide) (by decide) (by decide) ?_
  refine ho_dup dX7_init_57 rfl ?_
  refine ho_iconst (v := 1) dX7_init_58 (by decide) ?_
  refine ho_bipush (v := 101) dX7_init_59 (by decide) ?_
  refine ho_cast (j := 1) (j0 := 96 + 1 + 1 + 1 + 1 + 1) (u := 101) rfl (by decide) dX7_init_61 (rfl) (by omega) (by decide) (by decide) (by decide) (by decide) ?_
  refine ho_dup dX7_init_62 rfl ?_
  refine ho_iconst (v := 2) dX7_init_63 (by decide) ?_
  refine ho_bipush (v := 108) dX7_init_64 (by decide) ?_
  refine ho_cast (j := 2) (j0 := 96 + 1 + 1 + 1 + 1 + 1) (u := 108) rfl (by decide) dX7_init_66 (rfl) (by omega) (by decide) (by decide) (by decide) (by decide) ?_
  refine ho_dup dX7_init_67 rfl ?_
  refine ho_iconst (v := 3) dX7_init_68 (by decide) ?_
  refine ho_bipush (v := 116) dX7_init_69 (by decide) ?_
  refine ho_cast (j := 3) (j0 := 96 + 1 + 1 + 1 + 1 + 1) (u := 116) rfl (by decide) dX7_init_71 (rfl) (by omega) (by decide) (by decide) (by decide) (by decide) ?_
  refine ho_dup dX7_init_72 rfl ?_
  refine ho_iconst (v := 4) dX7_init_73 (by decide) ?_
  refine ho_bipush (v := 111) dX7_init_74 (by decide) ?_
  refine ho_cast (j := 4) (j0 := 96 + 1 + 1 + 1 + 1 + 1) (u := 111) rfl (by decide) dX7_init_76 (rfl) (by omega) (by decide) (by decide) (by decide) (by decide) ?_
  refine ho_dup dX7_init_77 rfl ?_
  refine ho_iconst (v := 5) dX7_init_78 (by decide) ?_
  refine ho_bipush (v := 119) dX7_init_79 (by decide) ?_
  refine ho_cast (j := 5) (j0 := 96 + 1 + 1 + 1 + 1 + 1) (u := 119) rfl (by decide) dX7_init_81 (rfl) (by omega) (by decide) (by decide) (by decide) (by decide) ?_
  refine ho_dup dX7_init_82 rfl ?_
  refine ho_bipush (v := 6) dX7_init_83 (by decide) ?_
  refine ho_bipush (v := 110) dX7_init_85 (by decide) ?_
  refine ho_cast (j := 6) (j0 := 96 + 1 + 1 + 1 + 1 + 1) (u := 110) rfl (by decide) dX7_init_87 (rfl) (by omega) (by decide) (by decide) (by decide) (by decide) ?_
  refine ho_dup dX7_init_88 rfl ?_
  refine ho_bipush (v := 7) dX7_init_89 (by decide) ?_
  refine ho_bipush (v := 101) dX7_init_91 (by decide) ?_
  refine ho_cast (j := 7) (j0 := 96 + 1 + 1 + 1 + 1 + 1) (u := 101) rfl (by decide) dX7_init_93 (rfl) (by omega) (by decide) (by decide) (by decide) (by decide) ?_
  refine ho_dup dX7_init_94 rfl ?_
  refine ho_bipush (v := 8) dX7_init_95 (by decide) ?_
  refine ho_bipush (v := 114) dX7_init_97 (by decide) ?_
  refine ho_cast (j := 8) (j0 := 96 + 1 + 1 + 1 + 1 + 1) (u := 114) rfl (by decide) dX7_init_99 (rfl) (by omega) (by decide) (by decide) (by decide) (by decide) ?_
  refine ho_dup dX7_init_100 rfl ?_
  refine ho_bipush (v := 9) dX7_init_101 (by decide) ?_
  refine ho_bipush (v := 102) dX7_init_103 (by decide) ?_
  refine ho_cast (j := 9) (j0 := 96 + 1 + 1 + 1 + 1 + 1) (u := 102) rfl (by decide) dX7_init_105 (rfl) (by omega) (by decide) (by decide) (by decide) (by decide) ?_
  refine ho_dup dX7_init_106 rfl ?_
  refine ho_bipush (v := 10) dX7_init_107 (by decide) ?_
  refine ho_bipush (v := 105) dX7_init_109 (by decide) ?_
  refine ho_cast (j := 10) (j0 := 96 + 1 + 1 + 1 + 1 + 1) (u := 105) rfl (by decide) dX7_init_111 (rfl) (by omega) (by decide) (by decide) (by decide) (by decide) ?_
  refine ho_dup dX7_init_112 rfl ?_
  refine ho_bipush (v := 11) dX7_init_113 (by decide) ?_
  refine ho_bipush (v := 110) dX7_init_115 (by decide) ?_
  refine ho_cast (j := 11) (j0 := 96 + 1 + 1 + 1 + 1 + 1) (u := 110) rfl (by decide) dX7_init_117 (rfl) (by omega) (by decide) (by decide) (by decide) (by decide) ?_
  refine ho_dup dX7_init_118 rfl ?_
  refine ho_bipush (v := 12) dX7_init_119 (by decide) ?_
  refine ho_bipush (v := 101) dX7_init_121 (by decide) ?_
  refine ho_cast (j := 12) (j0 := 96 + 1 + 1 + 1 + 1 + 1) (u := 101) rfl (by decide) dX7_init_123 (rfl) (by omega) (by decide) (by decide) (by decide) (by decide) ?_
  refine ho_putr (j := 95) hni_KI ff_X7_25 dX7_init_124 (rfl) (by omega) rfl ?_
  refine ho_aload_n (q := 0) dX7_init_127 rfl rfl ?_
  refine ho_iconst (v := 4) dX7_init_128 (by decide) ?_
  refine ho_newa (atype := .int) (r := 31) (i := 0) (n := 4) (d := 0) (K := 117) (hri_KI (by decide) (Nat.le_refl _)) (by omega) (rfl) rfl ay_int (by decide) (by decide) (by decide) rfl (by intro C h; cases h) dX7_init_129 ?_
  refine ho_dup dX7_init_131 rfl ?_
  refine ho_iconst (v := 0) dX7_init_132 (by decide) ?_
  refine ho_iconst (v := 0) dX7_init_133 (by decide) ?_
  refine ho_iast (j := 0) (j0 := 96 + 1 + 1 + 1 + 1 + 1 + 1) rfl (by decide) dX7_init_134 (rfl) (by omega) (by decide) (by decide) ?_
  refine ho_dup dX7_init_135 rfl ?_
  refine ho_iconst (v := 1) dX7_init_136 (by decide) ?_
  refine ho_iconst (v := 4) dX7_init_137 (by decide) ?_
  refine ho_iast (j := 1) (j0 := 96 + 1 + 1 + 1 + 1 + 1 + 1) rfl (by decide) dX7_init_138 (rfl) (by omega) (by decide) (by decide) ?_
  refine ho_dup dX7_init_139 rfl ?_
  refine ho_iconst (v := 2) dX7_init_140 (by decide) ?_
  refine ho_bipush (v := 9) dX7_init_141 (by decide) ?_
  refine ho_iast (j := 2) (j0 := 96 + 1 + 1 + 1 + 1 + 1 + 1) rfl (by decide) dX7_init_143 (rfl) (by omega) (by decide) (by decide) ?_
  refine ho_dup dX7_init_144 rfl ?_
  refine ho_iconst (v := 3) dX7_init_145 (by decide) ?_
  refine ho_bipush (v := 13) dX7_init_146 (by decide) ?_
  refine ho_iast (j := 3) (j0 := 96 + 1 + 1 + 1 + 1 + 1 + 1) rfl (by decide) dX7_init_148 (rfl) (by omega) (by decide) (by decide) ?_
  refine ho_putr (j := 95) hni_KI ff_X7_29 dX7_init_149 (rfl) (by omega) rfl ?_
  refine ho_aload_n (q := 0) dX7_init_152 rfl rfl ?_
  refine ho_bipush (v := 96) dX7_init_153 (by decide) ?_
  refine ho_newa (atype := .int) (r := 32) (i := 0) (n := 96) (d := 0) (K := 117) (hri_KI (by decide) (Nat.le_refl _)) (by omega) (rfl) rfl ay_int (by decide) (by decide) (by decide) rfl (by intro C h; cases h) dX7_init_155 ?_
  refine ho_putr (j := 95) hni_KI ff_X7_32 dX7_init_157 (rfl) (by omega) rfl ?_
  refine ho_aload_n (q := 0) dX7_init_160 rfl rfl ?_
  refine ho_bipush (v := 96) dX7_init_161 (by decide) ?_
  refine ho_newa (atype := .int) (r := 33) (i := 0) (n := 96) (d := 0) (K := 117) (hri_KI (by decide) (Nat.le_refl _)) (by omega) (rfl) rfl ay_int (by decide) (by decide) (by decide) rfl (by intro C h; cases h) dX7_init_163 ?_
  refine ho_putr (j := 95) hni_KI ff_X7_35 dX7_init_165 (rfl) (by omega) rfl ?_
  refine ho_aload_n (q := 0) dX7_init_168 rfl rfl ?_
  refine ho_bipush (v := 10) dX7_init_169 (by decide) ?_
  refine ho_newa (atype := .boolean) (r := 34) (i := 0) (n := 10) (d := 0) (K := 117) (hri_KI (by decide) (Nat.le_refl _)) (by omega) (rfl) rfl ay_boolean (by decide) (by decide) (by decide) rfl (by intro C h; cases h) dX7_init_171 ?_
  refine ho_putr (j := 95) hni_KI ff_X7_38 dX7_init_173 (rfl) (by omega) rfl ?_
  refine ho_aload_n (q := 0) dX7_init_176 rfl rfl ?_
  refine ho_bipush (v := 96) dX7_init_177 (by decide) ?_
  refine ho_newa (atype := .int) (r := 35) (i := 0) (n := 96) (d := 0) (K := 117) (hri_KI (by decide) (Nat.le_refl _)) (by omega) (rfl) rfl ay_int (by decide) (by decide) (by decide) rfl (by intro C h; cases h) dX7_init_179 ?_
  refine ho_putr (j := 95) hni_KI ff_X7_42 dX7_init_181 (rfl) (by omega) rfl ?_
  refine ho_aload_n (q := 0) dX7_init_184 rfl rfl ?_
  refine ho_iconst (v := 4) dX7_init_185 (by decide) ?_
  refine ho_newa (atype := .int) (r := 36) (i := 0) (n := 4) (d := 0) (K := 117) (hri_KI (by decide) (Nat.le_refl _)) (by omega) (rfl) rfl ay_int (by decide) (by decide) (by decide) rfl (by intro C h; cases h) dX7_init_186 ?_
  refine ho_putr (j := 95) hni_KI ff_X7_45 dX7_init_188 (rfl) (by omega) rfl ?_
  refine ho_aload_n (q := 0) dX7_init_191 rfl rfl ?_
  refine ho_iconst (v := 4) dX7_init_192 (by decide) ?_
  refine ho_newa (atype := .int) (r := 37) (i := 0) (n := 4) (d := 0) (K := 117) (hri_KI (by decide) (Nat.le_refl _)) (by omega) (rfl) rfl ay_int (by decide) (by decide) (by decide) rfl (by intro C h; cases h) dX7_init_193 ?_
  refine ho_dup dX7_init_195 rfl ?_
  refine ho_iconst (v := 0) dX7_init_196 (by decide) ?_
  refine ho_iconst (v := (-1)) dX7_init_197 (by decide) ?_
  refine ho_iast (j := 0) (j0 := 96 + 1 + 1 + 1 + 1 + 1 + 1 + 1 + 1 + 1 + 1 + 1 + 1) rfl (by decide) dX7_init_198 (rfl) (by omega) (by decide) (by decide) ?_
  refine ho_dup dX7_init_199 rfl ?_
  refine ho_iconst (v := 1) dX7_init_200 (by decide) ?_
  refine ho_iconst (v := (-1)) dX7_init_201 (by decide) ?_
  refine ho_iast (j := 1) (j0 := 96 + 1 + 1 + 1 + 1 + 1 + 1 + 1 + 1 + 1 + 1 + 1 + 1) rfl (by decide) dX7_init_202 (rfl) (by omega) (by decide) (by decide) ?_
  refine ho_dup dX7_init_203 rfl ?_
  refine ho_iconst (v := 2) dX7_init_204 (by decide) ?_
  refine ho_iconst (v := (-1)) dX7_init_205 (by decide) ?_
  refine ho_iast (j := 2) (j0 := 96 + 1 + 1 + 1 + 1 + 1 + 1 + 1 + 1 + 1 + 1 + 1 + 1) rfl (by decide) dX7_init_206 (rfl) (by omega) (by decide) (by decide) ?_
  refine ho_dup dX7_init_207 rfl ?_
  refine ho_iconst (v := 3) dX7_init_208 (by decide) ?_
  refine ho_iconst (v := (-1)) dX7_init_209 (by decide) ?_
  refine ho_iast (j := 3) (j0 := 96 + 1 + 1 + 1 + 1 + 1 + 1 + 1 + 1 + 1 + 1 + 1 + 1) rfl (by decide) dX7_init_210 (rfl) (by omega) (by decide) (by decide) ?_
  refine ho_putr (j := 95) hni_KI ff_X7_48 dX7_init_211 (rfl) (by omega) rfl ?_
  refine ho_aload_n (q := 0) dX7_init_214 rfl rfl ?_
  refine ho_iconst (v := 4) dX7_init_215 (by decide) ?_
  refine ho_newa (atype := .int) (r := 38) (i := 0) (n := 4) (d := 0) (K := 117) (hri_KI (by decide) (Nat.le_refl _)) (by omega) (rfl) rfl ay_int (by decide) (by decide) (by decide) rfl (by intro C h; cases h) dX7_init_216 ?_
  refine ho_putr (j := 95) hni_KI ff_X7_51 dX7_init_218 (rfl) (by omega) rfl ?_
  refine ho_aload_n (q := 0) dX7_init_221 rfl rfl ?_
  refine ho_bipush (v := 96) dX7_init_222 (by decide) ?_
  refine ho_newa (atype := .int) (r := 39) (i := 0) (n := 96) (d := 0) (K := 117) (hri_KI (by decide) (Nat.le_refl _)) (by omega) (rfl) rfl ay_int (by decide) (by decide) (by decide) rfl (by intro C h; cases h) dX7_init_224 ?_
  refine ho_putr (j := 95) hni_KI ff_X7_54 dX7_init_226 (rfl) (by omega) rfl ?_
  refine ho_aload_n (q := 0) dX7_init_229 rfl rfl ?_
  refine ho_iconst (v := 5) dX7_init_230 (by decide) ?_
  refine ho_newa (atype := .int) (r := 40) (i := 0) (n := 5) (d := 0) (K := 117) (hri_KI (by decide) (Nat.le_refl _)) (by omega) (rfl) rfl ay_int (by decide) (by decide) (by decide) rfl (by intro C h; cases h) dX7_init_231 ?_
  refine ho_putr (j := 95) hni_KI ff_X7_57 dX7_init_233 (rfl) (by omega) rfl ?_
  refine ho_aload_n (q := 0) dX7_init_236 rfl rfl ?_
  refine ho_iconst (v := 5) dX7_init_237 (by decide) ?_
  refine ho_newa (atype := .int) (r := 41) (i := 0) (n := 5) (d := 0) (K := 117) (hri_KI (by decide) (Nat.le_refl _)) (by omega) (rfl) rfl ay_int (by decide) (by decide) (by decide) rfl (by intro C h; cases h) dX7_init_238 ?_
  refine ho_putr (j := 95) hni_KI ff_X7_60 dX7_init_240 (rfl) (by omega) rfl ?_
  refine ho_aload_n (q := 0) dX7_init_243 rfl rfl ?_
  refine ho_iconst (v := 5) dX7_init_244 (by decide) ?_
  refine ho_newa (atype := .int) (r := 42) (i := 0) (n := 5) (d := 0) (K := 117) (hri_KI (by decide) (Nat.le_refl _)) (by omega) (rfl) rfl ay_int (by decide) (by decide) (by decide) rfl (by intro C h; cases h) dX7_init_245 ?_
  refine ho_putr (j := 95) hni_KI ff_X7_63 dX7_init_247 (rfl) (by omega) rfl ?_
  refine ho_aload_n (q := 0) dX7_init_250 rfl rfl ?_
  refine ho_bipush (v := 120) dX7_init_251 (by decide) ?_
  refine ho_newa (atype := .int) (r := 43) (i := 0) (n := 120) (d := 0) (K := 117) (hri_KI (by decide) (Nat.le_refl _)) (by omega) (rfl) rfl ay_int (by decide) (by decide) (by decide) rfl (by intro C h; cases h) dX7_init_253 ?_
  refine ho_putr (j := 95) hni_KI ff_X7_66 dX7_init_255 (rfl) (by omega) rfl ?_
  refine ho_aload_n (q := 0) dX7_init_258 rfl rfl ?_
  refine ho_bipush (v := 24) dX7_init_259 (by decide) ?_
  refine ho_newa (atype := .int) (r := 44) (i := 0) (n := 24) (d := 0) (K := 117) (hri_KI (by decide) (Nat.le_refl _)) (by omega) (rfl) rfl ay_int (by decide) (by decide) (by decide) rfl (by intro C h; cases h) dX7_init_261 ?_
  refine ho_putr (j := 95) hni_KI ff_X7_69 dX7_init_263 (rfl) (by omega) rfl ?_
  refine ho_aload_n (q := 0) dX7_init_266 rfl rfl ?_
  refine ho_bipush (v := 60) dX7_init_267 (by decide) ?_
  refine ho_newa (atype := .int) (r := 45) (i := 0) (n := 60) (d := 0) (K := 117) (hri_KI (by decide) (Nat.le_refl _)) (by omega) (rfl) rfl ay_int (by decide) (by decide) (by decide) rfl (by intro C h; cases h) dX7_init_269 ?_
  refine ho_putr (j := 95) hni_KI ff_X7_72 dX7_init_271 (rfl) (by omega) rfl ?_
  refine ho_aload_n (q := 0) dX7_init_274 rfl rfl ?_
  refine ho_getr (j := 95) fg_X7_9 dX7_init_275 (rfl) (by omega) (by show ¬ ((1 : Int32) = 0); decide) ?_
  refine ho_iconst (v := 0) dX7_init_278 (by decide) ?_
  refine ho_iconst (v := 1) dX7_init_279 (by decide) ?_
  refine ho_iast (j := 0) (j0 := 96) rfl (by decide) dX7_init_280 (rfl) (by omega) (by decide) (by decide) ?_
  refine ho_aload_n (q := 0) dX7_init_281 rfl rfl ?_
  refine ho_getr (j := 95) fg_X7_9 dX7_init_282 (rfl) (by omega) (by show ¬ ((1 : Int32) = 0); decide) ?_
  refine ho_iconst (v := 3) dX7_init_285 (by decide) ?_
  refine ho_bipush (v := 18) dX7_init_286 (by decide) ?_
  refine ho_iast (j := 3) (j0 := 96) rfl (by decide) dX7_init_288 (rfl) (by omega) (by decide) (by decide) ?_
  refine ho_vret dX7_init_289 rfl
