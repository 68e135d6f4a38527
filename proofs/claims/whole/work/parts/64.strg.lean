theorem dJ0_coder_7d493_0 : decode cJ0_coder_7d493 0 = .ok (.getstatic 38, 3) := by decide +kernel
theorem dJ0_coder_7d493_3 : decode cJ0_coder_7d493 3 = .ok (.ifCond .eq 10, 3) := by decide +kernel
theorem dJ0_coder_7d493_6 : decode cJ0_coder_7d493 6 = .ok (.aload_n 0, 1) := by decide +kernel
theorem dJ0_coder_7d493_7 : decode cJ0_coder_7d493 7 = .ok (.getfield 15, 3) := by decide +kernel
theorem dJ0_coder_7d493_10 : decode cJ0_coder_7d493 10 = .ok (.goto 4, 3) := by decide +kernel
theorem dJ0_coder_7d493_13 : decode cJ0_coder_7d493 13 = .ok (.iconst 1, 1) := by decide +kernel
theorem dJ0_coder_7d493_14 : decode cJ0_coder_7d493 14 = .ok (.ireturn, 1) := by decide +kernel
def wpJ0_coder_7d493_0 (C : CT)  (i0 : Nat)  (V : Mem) (Q : Option AV → Mem → Prop) : Prop :=
  (((1 : Int32) = 0 → (narrow .byte (.int 1) = .int 1 ∧ Q (some (aI 1)) V)) ∧ (¬ (1 : Int32) = 0 → (narrow .byte (.int (0 : Int32)) = .int (0 : Int32) ∧ Q (some (aI (0 : Int32))) V)))
set_option maxRecDepth 10000 in
theorem okJ0_coder_7d493_0 {d : Nat} {P : Option AV → Mem → Prop}  (i0 : Nat) (h_i0 : i0 < 6)   (V : Mem)  (h : wpJ0_coder_7d493_0 (Cl UX d)  i0  V P) : Gq (Kp (d + 1) mJ0_coder_7d493 UX P) UX cJ0_coder_7d493 1 RJ0 0 [(0, aR 61 i0)] [] V := by
  unfold wpJ0_coder_7d493_0 at h
  refine go_compact dJ0_coder_7d493_0 rfl rfl ?_
  refine go_if_eq (tgt := 13) dJ0_coder_7d493_3 (by decide) (fun c_1 => ?_) (fun c_1 => ?_)
  · have h := h.1 c_1
    refine go_iconst (v := 1) dJ0_coder_7d493_13 (by decide) ?_
    exact go_zret rfl h.1 dJ0_coder_7d493_14 h.2
  · have h := h.2 c_1
    refine go_aload_n (q := 0) dJ0_coder_7d493_6 rfl rfl ?_
    refine go_strC dJ0_coder_7d493_7 rfl rfl (by omega) ?_
    refine go_goto (tgt := 14) dJ0_coder_7d493_10 (by decide) ?_
    exact go_zret rfl h.1 dJ0_coder_7d493_14 h.2
theorem clJ0_coder_7d493 {d : Nat} {P : Option AV → Mem → Prop}  (i0 : Nat) (h_i0 : i0 < 6)  (V : Mem)  (h : wpJ0_coder_7d493_0 (Cl UX d)  i0  V P) : Cl UX (d + 1) mJ0_coder_7d493 [aR 61 i0] V P :=
  cl_of [(0, aR 61 i0)] (by decide) (fun _ => Nat.le_of_ble_eq_true rfl) (fun _ => rfl) (okJ0_coder_7d493_0 i0 h_i0  V  h)
theorem dJ0_isLatin1_aae02_0 : decode cJ0_isLatin1_aae02 0 = .ok (.getstatic 38, 3) := by decide +kernel
theorem dJ0_isLatin1_aae02_3 : decode cJ0_isLatin1_aae02 3 = .ok (.ifCond .eq 14, 3) := by decide +kernel
theorem dJ0_isLatin1_aae02_6 : decode cJ0_isLatin1_aae02 6 = .ok (.aload_n 0, 1) := by decide +kernel
theorem dJ0_isLatin1_aae02_7 : decode cJ0_isLatin1_aae02 7 = .ok (.getfield 15, 3) := by decide +kernel
theorem dJ0_isLatin1_aae02_10 : decode cJ0_isLatin1_aae02 10 = .ok (.ifCond .ne 7, 3) := by decide +kernel
theorem dJ0_isLatin1_aae02_13 : decode cJ0_isLatin1_aae02 13 = .ok (.iconst 1, 1) := by decide +kernel
theorem dJ0_isLatin1_aae02_14 : decode cJ0_isLatin1_aae02 14 = .ok (.goto 4, 3) := by decide +kernel
theorem dJ0_isLatin1_aae02_17 : decode cJ0_isLatin1_aae02 17 = .ok (.iconst 0, 1) := by decide +kernel
theorem dJ0_isLatin1_aae02_18 : decode cJ0_isLatin1_aae02 18 = .ok (.ireturn, 1) := by decide +kernel
def wpJ0_isLatin1_aae02_0 (C : CT)  (i0 : Nat)  (V : Mem) (Q : Option AV → Mem → Prop) : Prop :=
  (((1 : Int32) = 0 → Q (some (aI 0)) V) ∧ (¬ (1 : Int32) = 0 → ((¬ (0 : Int32) = 0 → Q (some (aI 0)) V) ∧ ((0 : Int32) = 0 → Q (some (aI 1)) V))))
set_option maxRecDepth 10000 in
theorem okJ0_isLatin1_aae02_0 {d : Nat} {P : Option AV → Mem → Prop}  (i0 : Nat) (h_i0 : i0 < 6)   (V : Mem)  (h : wpJ0_isLatin1_aae02_0 (Cl UX d)  i0  V P) : Gq (Kp (d + 1) mJ0_isLatin1_aae02 UX P) UX cJ0_isLatin1_aae02 1 RJ0 0 [(0, aR 61 i0)] [] V := by
  unfold wpJ0_isLatin1_aae02_0 at h
  refine go_compact dJ0_isLatin1_aae02_0 rfl rfl ?_
  refine go_if_eq (tgt := 17) dJ0_isLatin1_aae02_3 (by decide) (fun c_2 => ?_) (fun c_2 => ?_)
  · have h := h.1 c_2
    refine go_iconst (v := 0) dJ0_isLatin1_aae02_17 (by decide) ?_
    exact go_bret rfl dJ0_isLatin1_aae02_18 (by decide) h
  · have h := h.2 c_2
    refine go_aload_n (q := 0) dJ0_isLatin1_aae02_6 rfl rfl ?_
    refine go_strC dJ0_isLatin1_aae02_7 rfl rfl (by omega) ?_
    refine go_if_ne (tgt := 17) dJ0_isLatin1_aae02_10 (by decide) (fun c_1 => ?_) (fun c_1 => ?_)
    · have h := h.1 c_1
      refine go_iconst (v := 0) dJ0_isLatin1_aae02_17 (by decide) ?_
      exact go_bret rfl dJ0_isLatin1_aae02_18 (by decide) h
    · have h := h.2 c_1
      refine go_iconst (v := 1) dJ0_isLatin1_aae02_13 (by decide) ?_
      refine go_goto (tgt := 18) dJ0_isLatin1_aae02_14 (by decide) ?_
      exact go_bret rfl dJ0_isLatin1_aae02_18 (by decide) h
theorem clJ0_isLatin1_aae02 {d : Nat} {P : Option AV → Mem → Prop}  (i0 : Nat) (h_i0 : i0 < 6)  (V : Mem)  (h : wpJ0_isLatin1_aae02_0 (Cl UX d)  i0  V P) : Cl UX (d + 1) mJ0_isLatin1_aae02 [aR 61 i0] V P :=
  cl_of [(0, aR 61 i0)] (by decide) (fun _ => Nat.le_of_ble_eq_true rfl) (fun _ => rfl) (okJ0_isLatin1_aae02_0 i0 h_i0  V  h)
theorem dJ0_length_8abf5_0 : decode cJ0_length_8abf5 0 = .ok (.aload_n 0, 1) := by decide +kernel
theorem dJ0_length_8abf5_1 : decode cJ0_length_8abf5 1 = .ok (.getfield 9, 3) := by decide +kernel
theorem dJ0_length_8abf5_4 : decode cJ0_length_8abf5 4 = .ok (.arraylength, 1) := by decide +kernel
theorem dJ0_length_8abf5_5 : decode cJ0_length_8abf5 5 = .ok (.aload_n 0, 1) := by decide +kernel
theorem dJ0_length_8abf5_6 : decode cJ0_length_8abf5 6 = .ok (.invokevirtual 335, 3) := by decide +kernel
theorem dJ0_length_8abf5_9 : decode cJ0_length_8abf5 9 = .ok (.ishr, 1) := by decide +kernel
theorem dJ0_length_8abf5_10 : decode cJ0_length_8abf5 10 = .ok (.ireturn, 1) := by decide +kernel
def wpJ0_length_8abf5_0 (C : CT)  (i0 : Nat)  (V : Mem) (Q : Option AV → Mem → Prop) : Prop :=
  (cI C mJ0_coder_7d493 [aR 61 i0] V (fun x_2 V_1 => Q (some (aI ((nI (lenS.getD i0 0)) >>> (x_2 &&& 31)))) V_1))
set_option maxRecDepth 10000 in
theorem okJ0_length_8abf5_0 {d : Nat} {P : Option AV → Mem → Prop}  (i0 : Nat) (h_i0 : i0 < 6)   (V : Mem)  (h : wpJ0_length_8abf5_0 (Cl UX d)  i0  V P) : Gq (Kp (d + 1) mJ0_length_8abf5 UX P) UX cJ0_length_8abf5 1 RJ0 0 [(0, aR 61 i0)] [] V := by
  unfold wpJ0_length_8abf5_0 at h
  refine go_aload_n (q := 0) dJ0_length_8abf5_0 rfl rfl ?_
  refine go_strV dJ0_length_8abf5_1 rfl rfl (by omega) ?_
  refine go_tlen dJ0_length_8abf5_4 (by omega) ?_
  refine go_aload_n (q := 0) dJ0_length_8abf5_5 rfl rfl ?_
  refine go_cTI (As := []) (st := [aI (nI (lenS.getD i0 0))]) (i := i0) mv_J0_coder_7d493 dJ0_length_8abf5_6 ml_J0_335 (hr_Kp (Nat.le_refl d)) rfl (by omega) rfl rfl (Nat.le_of_ble_eq_true rfl) h (fun x_2 V_1 h => ?_)
  refine go_ishr dJ0_length_8abf5_9 ?_
  exact go_iret rfl dJ0_length_8abf5_10 h
theorem clJ0_length_8abf5 {d : Nat} {P : Option AV → Mem → Prop}  (i0 : Nat) (h_i0 : i0 < 6)  (V : Mem)  (h : wpJ0_length_8abf5_0 (Cl UX d)  i0  V P) : Cl UX (d + 1) mJ0_length_8abf5 [aR 61 i0] V P :=
  cl_of [(0, aR 61 i0)] (by decide) (fun _ => Nat.le_of_ble_eq_true rfl) (fun _ => rfl) (okJ0_length_8abf5_0 i0 h_i0  V  h)
theorem dJ3_checkIndex_8e157_0 : decode cJ3_checkIndex_8e157 0 = .ok (.iload_n 0, 1) := by decide +kernel
theorem dJ3_checkIndex_8e157_1 : decode cJ3_checkIndex_8e157 1 = .ok (.ifCond .lt 8, 3) := by decide +kernel
theorem dJ3_checkIndex_8e157_4 : decode cJ3_checkIndex_8e157 4 = .ok (.iload_n 0, 1) := by decide +kernel
theorem dJ3_checkIndex_8e157_5 : decode cJ3_checkIndex_8e157 5 = .ok (.iload_n 1, 1) := by decide +kernel
theorem dJ3_checkIndex_8e157_6 : decode cJ3_checkIndex_8e157 6 = .ok (.if_icmp .lt 10, 3) := by decide +kernel
theorem dJ3_checkIndex_8e157_9 : decode cJ3_checkIndex_8e157 9 = .ok (.aload_n 2, 1) := by decide +kernel
theorem dJ3_checkIndex_8e157_10 : decode cJ3_checkIndex_8e157 10 = .ok (.iload_n 0, 1) := by decide +kernel
theorem dJ3_checkIndex_8e157_11 : decode cJ3_checkIndex_8e157 11 = .ok (.iload_n 1, 1) := by decide +kernel
theorem dJ3_checkIndex_8e157_12 : decode cJ3_checkIndex_8e157 12 = .ok (.invokestatic 95, 3) := by decide +kernel
theorem dJ3_checkIndex_8e157_15 : decode cJ3_checkIndex_8e157 15 = .ok (.athrow, 1) := by decide +kernel
theorem dJ3_checkIndex_8e157_16 : decode cJ3_checkIndex_8e157 16 = .ok (.iload_n 0, 1) := by decide +kernel
theorem dJ3_checkIndex_8e157_17 : decode cJ3_checkIndex_8e157 17 = .ok (.ireturn, 1) := by decide +kernel
def wpJ3_checkIndex_8e157_63_0 (C : CT)   (x0 : Int32) (x1 : Int32) (V : Mem) (Q : Option AV → Mem → Prop) : Prop :=
  ((x0 < 0 → False) ∧ (¬ x0 < 0 → ((x0 < x1 → Q (some (aI x0)) V) ∧ (¬ x0 < x1 → False))))
set_option maxRecDepth 10000 in
theorem okJ3_checkIndex_8e157_63_0 {d : Nat} {P : Option AV → Mem → Prop}    (x0 : Int32) (x1 : Int32)  (V : Mem)  (h : wpJ3_checkIndex_8e157_63_0 (Cl UX d)   x0 x1 V P) : Gq (Kp (d + 1) mJ3_checkIndex_8e157 UX P) UX cJ3_checkIndex_8e157 3 RJ3 0 [(0, aI x0), (1, aI x1), (2, aR 63 0)] [] V := by
  unfold wpJ3_checkIndex_8e157_63_0 at h
  refine go_iload_n (q := 0) dJ3_checkIndex_8e157_0 rfl rfl ?_
  refine go_if_lt (tgt := 9) dJ3_checkIndex_8e157_1 (by decide) (fun c_2 => ?_) (fun c_2 => ?_)
  · have h := h.1 c_2
    exact h.elim
  · have h := h.2 c_2
    refine go_iload_n (q := 0) dJ3_checkIndex_8e157_4 rfl rfl ?_
    refine go_iload_n (q := 1) dJ3_checkIndex_8e157_5 rfl rfl ?_
    refine go_icmp_lt (tgt := 16) dJ3_checkIndex_8e157_6 (by decide) (fun c_1 => ?_) (fun c_1 => ?_)
    · have h := h.1 c_1
      refine go_iload_n (q := 0) dJ3_checkIndex_8e157_16 rfl rfl ?_
      exact go_iret rfl dJ3_checkIndex_8e157_17 h
    · have h := h.2 c_1
      exact h.elim
theorem clJ3_checkIndex_8e157_63 {d : Nat} {P : Option AV → Mem → Prop}    (x0 : Int32) (x1 : Int32) (V : Mem)  (h : wpJ3_checkIndex_8e157_63_0 (Cl UX d)   x0 x1 V P) : Cl UX (d + 1) mJ3_checkIndex_8e157 [aI x0, aI x1, aR 63 0] V P :=
  cl_of [(0, aI x0), (1, aI x1), (2, aR 63 0)] (by decide) (fun _ => Nat.le_of_ble_eq_true rfl) (fun _ => rfl) (okJ3_checkIndex_8e157_63_0   x0 x1 V  h)
def wpJ3_checkIndex_8e157_N_0 (C : CT)   (x0 : Int32) (x1 : Int32) (V : Mem) (Q : Option AV → Mem → Prop) : Prop :=
  ((x0 < 0 → False) ∧ (¬ x0 < 0 → ((x0 < x1 → Q (some (aI x0)) V) ∧ (¬ x0 < x1 → False))))
set_option maxRecDepth 10000 in
theorem okJ3_checkIndex_8e157_N_0 {d : Nat} {P : Option AV → Mem → Prop}    (x0 : Int32) (x1 : Int32)  (V : Mem)  (h : wpJ3_checkIndex_8e157_N_0 (Cl UX d)   x0 x1 V P) : Gq (Kp (d + 1) mJ3_checkIndex_8e157 UX P) UX cJ3_checkIndex_8e157 3 RJ3 0 [(0, aI x0), (1, aI x1), (2, aN)] [] V := by
  unfold wpJ3_checkIndex_8e157_N_0 at h
  refine go_iload_n (q := 0) dJ3_checkIndex_8e157_0 rfl rfl ?_
  refine go_if_lt (tgt := 9) dJ3_checkIndex_8e157_1 (by decide) (fun c_2 => ?_) (fun c_2 => ?_)
  · have h := h.1 c_2
    exact h.elim
  · have h := h.2 c_2
    refine go_iload_n (q := 0) dJ3_checkIndex_8e157_4 rfl rfl ?_
    refine go_iload_n (q := 1) dJ3_checkIndex_8e157_5 rfl rfl ?_
    refine go_icmp_lt (tgt := 16) dJ3_checkIndex_8e157_6 (by decide) (fun c_1 => ?_) (fun c_1 => ?_)
    · have h := h.1 c_1
      refine go_iload_n (q := 0) dJ3_checkIndex_8e157_16 rfl rfl ?_
      exact go_iret rfl dJ3_checkIndex_8e157_17 h
    · have h := h.2 c_1
      exact h.elim
theorem clJ3_checkIndex_8e157_N {d : Nat} {P : Option AV → Mem → Prop}    (x0 : Int32) (x1 : Int32) (V : Mem)  (h : wpJ3_checkIndex_8e157_N_0 (Cl UX d)   x0 x1 V P) : Cl UX (d + 1) mJ3_checkIndex_8e157 [aI x0, aI x1, aN] V P :=
  cl_of [(0, aI x0), (1, aI x1), (2, aN)] (by decide) (fun _ => Nat.le_of_ble_eq_true rfl) (fun _ => rfl) (okJ3_checkIndex_8e157_N_0   x0 x1 V  h)
theorem dJ0_checkIndex_df160_0 : decode cJ0_checkIndex_df160 0 = .ok (.iload_n 0, 1) := by decide +kernel
theorem dJ0_checkIndex_df160_1 : decode cJ0_checkIndex_df160 1 = .ok (.iload_n 1, 1) := by decide +kernel
theorem dJ0_checkIndex_df160_2 : decode cJ0_checkIndex_df160 2 = .ok (.getstatic 1053, 3) := by decide +kernel
theorem dJ0_checkIndex_df160_5 : decode cJ0_checkIndex_df160 5 = .ok (.invokestatic 1059, 3) := by decide +kernel
theorem dJ0_checkIndex_df160_8 : decode cJ0_checkIndex_df160 8 = .ok (.pop, 1) := by decide +kernel
theorem dJ0_checkIndex_df160_9 : decode cJ0_checkIndex_df160 9 = .ok (.return_, 1) := by decide +kernel
def wpJ0_checkIndex_df160_0 (C : CT)   (x0 : Int32) (x1 : Int32) (V : Mem) (Q : Option AV → Mem → Prop) : Prop :=
  ((cI C mJ3_checkIndex_8e157 [aI x0, aI x1, aR 63 0] V (fun x_2 V_1 => Q none V_1)) ∧ (cI C mJ3_checkIndex_8e157 [aI x0, aI x1, aN] V (fun x_4 V_3 => Q none V_3)))
set_option maxRecDepth 10000 in
theorem okJ0_checkIndex_df160_0 {d : Nat} {P : Option AV → Mem → Prop}    (x0 : Int32) (x1 : Int32)  (V : Mem)  (h : wpJ0_checkIndex_df160_0 (Cl UX d)   x0 x1 V P) : Gq (Kp (d + 1) mJ0_checkIndex_df160 UX P) UX cJ0_checkIndex_df160 2 RJ0 0 [(0, aI x0), (1, aI x1)] [] V := by
  unfold wpJ0_checkIndex_df160_0 at h
  refine go_iload_n (q := 0) dJ0_checkIndex_df160_0 rfl rfl ?_
  refine go_iload_n (q := 1) dJ0_checkIndex_df160_1 rfl rfl ?_
  refine go_siob dJ0_checkIndex_df160_2 rfl rfl ?_ ?_
  · have h := h.1
    refine go_cSI (As := [aI x0, aI x1, aR 63 0]) (st := []) ms_J3_checkIndex_8e157 dJ0_checkIndex_df160_5 ml_J0_1059 (hr_Kp (Nat.le_refl d)) rfl rfl (Nat.le_of_ble_eq_true rfl) h (fun x_2 V_1 h => ?_)
    refine go_pop dJ0_checkIndex_df160_8 rfl ?_
    exact go_vret rfl dJ0_checkIndex_df160_9 h
  · have h := h.2
    refine go_cSI (As := [aI x0, aI x1, aN]) (st := []) ms_J3_checkIndex_8e157 dJ0_checkIndex_df160_5 ml_J0_1059 (hr_Kp (Nat.le_refl d)) rfl rfl (Nat.le_of_ble_eq_true rfl) h (fun x_4 V_3 h => ?_)
    refine go_pop dJ0_checkIndex_df160_8 rfl ?_
    exact go_vret rfl dJ0_checkIndex_df160_9 h
theorem clJ0_checkIndex_df160 {d : Nat} {P : Option AV → Mem → Prop}    (x0 : Int32) (x1 : Int32) (V : Mem)  (h : wpJ0_checkIndex_df160_0 (Cl UX d)   x0 x1 V P) : Cl UX (d + 1) mJ0_checkIndex_df160 [aI x0, aI x1] V P :=
  cl_of [(0, aI x0), (1, aI x1)] (by decide) (fun _ => Nat.le_of_ble_eq_true rfl) (fun _ => rfl) (okJ0_checkIndex_df160_0   x0 x1 V  h)
theorem dJ1_charAt_3b067_0 : decode cJ1_charAt_3b067 0 = .ok (.iload_n 1, 1) := by decide +kernel
theorem dJ1_charAt_3b067_1 : decode cJ1_charAt_3b067 1 = .ok (.aload_n 0, 1) := by decide +kernel
theorem dJ1_charAt_3b067_2 : decode cJ1_charAt_3b067 2 = .ok (.arraylength, 1) := by decide +kernel
theorem dJ1_charAt_3b067_3 : decode cJ1_charAt_3b067 3 = .ok (.invokestatic 9, 3) := by decide +kernel
theorem dJ1_charAt_3b067_6 : decode cJ1_charAt_3b067 6 = .ok (.aload_n 0, 1) := by decide +kernel
theorem dJ1_charAt_3b067_7 : decode cJ1_charAt_3b067 7 = .ok (.iload_n 1, 1) := by decide +kernel
theorem dJ1_charAt_3b067_8 : decode cJ1_charAt_3b067 8 = .ok (.baload, 1) := by decide +kernel
theorem dJ1_charAt_3b067_9 : decode cJ1_charAt_3b067 9 = .ok (.sipush 255, 3) := by decide +kernel
theorem dJ1_charAt_3b067_12 : decode cJ1_charAt_3b067 12 = .ok (.iand, 1) := by decide +kernel
theorem dJ1_charAt_3b067_13 : decode cJ1_charAt_3b067 13 = .ok (.i2c, 1) := by decide +kernel
theorem dJ1_charAt_3b067_14 : decode cJ1_charAt_3b067 14 = .ok (.ireturn, 1) := by decide +kernel
def wpJ1_charAt_3b067_0 (C : CT)  (n0 : Nat) (x1 : Int32) (V : Mem) (Q : Option AV → Mem → Prop) : Prop :=
  (cV C mJ0_checkIndex_df160 [aI x1, aI (nI (lenS.getD n0 0))] V (fun V_1 => (∃ j_2 : Nat, x1 = nI j_2 ∧ j_2 < (lenS.getD n0 0) ∧ (narrow .char (.int ((((((bytS.getD n0 []).getD j_2 0) &&& 255) : Int32).toUInt32 % 65536).toInt32)) = .int ((((((bytS.getD n0 []).getD j_2 0) &&& 255) : Int32).toUInt32 % 65536).toInt32) ∧ Q (some (aI ((((((bytS.getD n0 []).getD j_2 0) &&& 255) : Int32).toUInt32 % 65536).toInt32))) V_1))))
set_option maxRecDepth 10000 in
theorem okJ1_charAt_3b067_0 {d : Nat} {P : Option AV → Mem → Prop}  (n0 : Nat) (h_n0 : n0 < 6) (x1 : Int32)  (V : Mem)  (h : wpJ1_charAt_3b067_0 (Cl UX d)  n0 x1 V P) : Gq (Kp (d + 1) mJ1_charAt_3b067 UX P) UX cJ1_charAt_3b067 2 RJ1 0 [(0, aR 62 n0), (1, aI x1)] [] V := by
  unfold wpJ1_charAt_3b067_0 at h
  refine go_iload_n (q := 1) dJ1_charAt_3b067_0 rfl rfl ?_
  refine go_aload_n (q := 0) dJ1_charAt_3b067_1 rfl rfl ?_
  refine go_tlen dJ1_charAt_3b067_2 (by omega) ?_
  refine go_cSV (As := [aI x1, aI (nI (lenS.getD n0 0))]) (st := []) ms_J0_checkIndex_df160 dJ1_charAt_3b067_3 ml_J1_9 (hr_Kp (Nat.le_refl d)) rfl rfl (Nat.le_of_ble_eq_true rfl) h (fun V_1 h => ?_)
  refine go_aload_n (q := 0) dJ1_charAt_3b067_6 rfl rfl ?_
  refine go_iload_n (q := 1) dJ1_charAt_3b067_7 rfl rfl ?_
  obtain ⟨j_2, e_j_2, l_j_2, h⟩ := h
  refine go_tb (j := j_2) dJ1_charAt_3b067_8 (by omega) e_j_2 l_j_2 ?_
  refine go_sipush (v := 255) dJ1_charAt_3b067_9 (by decide) ?_
  refine go_iand dJ1_charAt_3b067_12 ?_
  refine go_i2c dJ1_charAt_3b067_13 ?_
  exact go_zret rfl h.1 dJ1_charAt_3b067_14 h.2
theorem clJ1_charAt_3b067 {d : Nat} {P : Option AV → Mem → Prop}  (n0 : Nat) (h_n0 : n0 < 6) (x1 : Int32) (V : Mem)  (h : wpJ1_charAt_3b067_0 (Cl UX d)  n0 x1 V P) : Cl UX (d + 1) mJ1_charAt_3b067 [aR 62 n0, aI x1] V P :=
  cl_of [(0, aR 62 n0), (1, aI x1)] (by decide) (fun _ => Nat.le_of_ble_eq_true rfl) (fun _ => rfl) (okJ1_charAt_3b067_0 n0 h_n0 x1 V  h)
theorem dJ0_charAt_5068e_0 : decode cJ0_charAt_5068e 0 = .ok (.aload_n 0, 1) := by decide +kernel
theorem dJ0_charAt_5068e_1 : decode cJ0_charAt_5068e 1 = .ok (.invokevirtual 492, 3) := by decide +kernel
theorem dJ0_charAt_5068e_4 : decode cJ0_charAt_5068e 4 = .ok (.ifCond .eq 12, 3) := by decide +kernel
theorem dJ0_charAt_5068e_7 : decode cJ0_charAt_5068e 7 = .ok (.aload_n 0, 1) := by decide +kernel
theorem dJ0_charAt_5068e_8 : decode cJ0_charAt_5068e 8 = .ok (.getfield 9, 3) := by decide +kernel
theorem dJ0_charAt_5068e_11 : decode cJ0_charAt_5068e 11 = .ok (.iload_n 1, 1) := by decide +kernel
theorem dJ0_charAt_5068e_12 : decode cJ0_charAt_5068e 12 = .ok (.invokestatic 495, 3) := by decide +kernel
theorem dJ0_charAt_5068e_15 : decode cJ0_charAt_5068e 15 = .ok (.ireturn, 1) := by decide +kernel
theorem dJ0_charAt_5068e_16 : decode cJ0_charAt_5068e 16 = .ok (.aload_n 0, 1) := by decide +kernel
theorem dJ0_charAt_5068e_17 : decode cJ0_charAt_5068e 17 = .ok (.getfield 9, 3) := by decide +kernel
theorem dJ0_charAt_5068e_20 : decode cJ0_charAt_5068e 20 = .ok (.iload_n 1, 1) := by decide +kernel
theorem dJ0_charAt_5068e_21 : decode cJ0_charAt_5068e 21 = .ok (.invokestatic 498, 3) := by decide +kernel
theorem dJ0_charAt_5068e_24 : decode cJ0_charAt_5068e 24 = .ok (.ireturn, 1) := by decide +kernel
def wpJ0_charAt_5068e_0 (C : CT)  (i0 : Nat) (x1 : Int32) (V : Mem) (Q : Option AV → Mem → Prop) : Prop :=
  (cI C mJ0_isLatin1_aae02 [aR 61 i0] V (fun x_2 V_1 => ((x_2 = 0 → (cI C mJ2_charAt_3b067 [aR 62 i0, aI x1] V_1 (fun x_4 V_3 => (narrow .char (.int x_4) = .int x_4 ∧ Q (some (aI x_4)) V_3)))) ∧ (¬ x_2 = 0 → (cI C mJ1_charAt_3b067 [aR 62 i0, aI x1] V_1 (fun x_6 V_5 => (narrow .char (.int x_6) = .int x_6 ∧ Q (some (aI x_6)) V_5)))))))
set_option maxRecDepth 10000 in
theorem okJ0_charAt_5068e_0 {d : Nat} {P : Option AV → Mem → Prop}  (i0 : Nat) (h_i0 : i0 < 6) (x1 : Int32)  (V : Mem)  (h : wpJ0_charAt_5068e_0 (Cl UX d)  i0 x1 V P) : Gq (Kp (d + 1) mJ0_charAt_5068e UX P) UX cJ0_charAt_5068e 2 RJ0 0 [(0, aR 61 i0), (1, aI x1)] [] V := by
  unfold wpJ0_charAt_5068e_0 at h
  refine go_aload_n (q := 0) dJ0_charAt_5068e_0 rfl rfl ?_
  refine go_cTI (As := []) (st := []) (i := i0) mv_J0_isLatin1_aae02 dJ0_charAt_5068e_1 ml_J0_492 (hr_Kp (Nat.le_refl d)) rfl (by omega) rfl rfl (Nat.le_of_ble_eq_true rfl) h (fun x_2 V_1 h => ?_)
  refine go_if_eq (tgt := 16) dJ0_charAt_5068e_4 (by decide) (fun c_7 => ?_) (fun c_7 => ?_)
  · have h := h.1 c_7
    refine go_aload_n (q := 0) dJ0_charAt_5068e_16 rfl rfl ?_
    refine go_strV dJ0_charAt_5068e_17 rfl rfl (by omega) ?_
    refine go_iload_n (q := 1) dJ0_charAt_5068e_20 rfl rfl ?_
    refine go_cSI (As := [aR 62 i0, aI x1]) (st := []) ms_J2_charAt_3b067 dJ0_charAt_5068e_21 ml_J0_498 (hr_Kp (Nat.le_refl d)) rfl rfl (Nat.le_of_ble_eq_true rfl) h (fun x_4 V_3 h => ?_)
    exact go_zret rfl h.1 dJ0_charAt_5068e_24 h.2
  · have h := h.2 c_7
    refine go_aload_n (q := 0) dJ0_charAt_5068e_7 rfl rfl ?_
    refine go_strV dJ0_charAt_5068e_8 rfl rfl (by omega) ?_
    refine go_iload_n (q := 1) dJ0_charAt_5068e_11 rfl rfl ?_
    refine go_cSI (As := [aR 62 i0, aI x1]) (st := []) ms_J1_charAt_3b067 dJ0_charAt_5068e_12 ml_J0_495 (hr_Kp (Nat.le_refl d)) rfl rfl (Nat.le_of_ble_eq_true rfl) h (fun x_6 V_5 h => ?_)
    exact go_zret rfl h.1 dJ0_charAt_5068e_15 h.2
theorem clJ0_charAt_5068e {d : Nat} {P : Option AV → Mem → Prop}  (i0 : Nat) (h_i0 : i0 < 6) (x1 : Int32) (V : Mem)  (h : wpJ0_charAt_5068e_0 (Cl UX d)  i0 x1 V P) : Cl UX (d + 1) mJ0_charAt_5068e [aR 61 i0, aI x1] V P :=
  cl_of [(0, aR 61 i0), (1, aI x1)] (by decide) (fun _ => Nat.le_of_ble_eq_true rfl) (fun _ => rfl) (okJ0_charAt_5068e_0 i0 h_i0 x1 V  h)
theorem dJ1_canEncode_9a6ad_0 : decode cJ1_canEncode_9a6ad 0 = .ok (.iload_n 0, 1) := by decide +kernel
theorem dJ1_canEncode_9a6ad_1 : decode cJ1_canEncode_9a6ad 1 = .ok (.ifCond .lt 14, 3) := by decide +kernel
theorem dJ1_canEncode_9a6ad_4 : decode cJ1_canEncode_9a6ad 4 = .ok (.iload_n 0, 1) := by decide +kernel
theorem dJ1_canEncode_9a6ad_5 : decode cJ1_canEncode_9a6ad 5 = .ok (.sipush 255, 3) := by decide +kernel
theorem dJ1_canEncode_9a6ad_8 : decode cJ1_canEncode_9a6ad 8 = .ok (.if_icmp .gt 7, 3) := by decide +kernel
theorem dJ1_canEncode_9a6ad_11 : decode cJ1_canEncode_9a6ad 11 = .ok (.iconst 1, 1) := by decide +kernel
theorem dJ1_canEncode_9a6ad_12 : decode cJ1_canEncode_9a6ad 12 = .ok (.goto 4, 3) := by decide +kernel
theorem dJ1_canEncode_9a6ad_15 : decode cJ1_canEncode_9a6ad 15 = .ok (.iconst 0, 1) := by decide +kernel
theorem dJ1_canEncode_9a6ad_16 : decode cJ1_canEncode_9a6ad 16 = .ok (.ireturn, 1) := by decide +kernel
def wpJ1_canEncode_9a6ad_0 (C : CT)   (x0 : Int32) (V : Mem) (Q : Option AV → Mem → Prop) : Prop :=
  ((x0 < 0 → Q (some (aI 0)) V) ∧ (¬ x0 < 0 → ((255 < x0 → Q (some (aI 0)) V) ∧ (¬ 255 < x0 → Q (some (aI 1)) V))))
set_option maxRecDepth 10000 in
theorem okJ1_canEncode_9a6ad_0 {d : Nat} {P : Option AV → Mem → Prop}    (x0 : Int32)  (V : Mem)  (h : wpJ1_canEncode_9a6ad_0 (Cl UX d)   x0 V P) : Gq (Kp (d + 1) mJ1_canEncode_9a6ad UX P) UX cJ1_canEncode_9a6ad 1 RJ1 0 [(0, aI x0)] [] V := by
  unfold wpJ1_canEncode_9a6ad_0 at h
  refine go_iload_n (q := 0) dJ1_canEncode_9a6ad_0 rfl rfl ?_
  refine go_if_lt (tgt := 15) dJ1_canEncode_9a6ad_1 (by decide) (fun c_2 => ?_) (fun c_2 => ?_)
  · have h := h.1 c_2
    refine go_iconst (v := 0) dJ1_canEncode_9a6ad_15 (by decide) ?_
    exact go_bret rfl dJ1_canEncode_9a6ad_16 (by decide) h
  · have h := h.2 c_2
    refine go_iload_n (q := 0) dJ1_canEncode_9a6ad_4 rfl rfl ?_
    refine go_sipush (v := 255) dJ1_canEncode_9a6ad_5 (by decide) ?_
    refine go_icmp_gt (tgt := 15) dJ1_canEncode_9a6ad_8 (by decide) (fun c_1 => ?_) (fun c_1 => ?_)
    · have h := h.1 c_1
      refine go_iconst (v := 0) dJ1_canEncode_9a6ad_15 (by decide) ?_
      exact go_bret rfl dJ1_canEncode_9a6ad_16 (by decide) h
    · have h := h.2 c_1
      refine go_iconst (v := 1) dJ1_canEncode_9a6ad_11 (by decide) ?_
      refine go_goto (tgt := 16) dJ1_canEncode_9a6ad_12 (by decide) ?_
      exact go_bret rfl dJ1_canEncode_9a6ad_16 (by decide) h
theorem clJ1_canEncode_9a6ad {d : Nat} {P : Option AV → Mem → Prop}    (x0 : Int32) (V : Mem)  (h : wpJ1_canEncode_9a6ad_0 (Cl UX d)   x0 V P) : Cl UX (d + 1) mJ1_canEncode_9a6ad [aI x0] V P :=
  cl_of [(0, aI x0)] (by decide) (fun _ => Nat.le_of_ble_eq_true rfl) (fun _ => rfl) (okJ1_canEncode_9a6ad_0   x0 V  h)
theorem dJ1_indexOfChar_4cfef_0 : decode cJ1_indexOfChar_4cfef 0 = .ok (.iload_n 1, 1) := by decide +kernel
theorem dJ1_indexOfChar_4cfef_1 : decode cJ1_indexOfChar_4cfef 1 = .ok (.i2b, 1) := by decide +kernel
theorem dJ1_indexOfChar_4cfef_2 : decode cJ1_indexOfChar_4cfef 2 = .ok (.istore 4, 2) := by decide +kernel
theorem dJ1_indexOfChar_4cfef_4 : decode cJ1_indexOfChar_4cfef 4 = .ok (.iload_n 2, 1) := by decide +kernel
theorem dJ1_indexOfChar_4cfef_5 : decode cJ1_indexOfChar_4cfef 5 = .ok (.istore 5, 2) := by decide +kernel
theorem dJ1_indexOfChar_4cfef_7 : decode cJ1_indexOfChar_4cfef 7 = .ok (.iload 5, 2) := by decide +kernel
theorem dJ1_indexOfChar_4cfef_9 : decode cJ1_indexOfChar_4cfef 9 = .ok (.iload_n 3, 1) := by decide +kernel
theorem dJ1_indexOfChar_4cfef_10 : decode cJ1_indexOfChar_4cfef 10 = .ok (.if_icmp .ge 21, 3) := by decide +kernel
theorem dJ1_indexOfChar_4cfef_13 : decode cJ1_indexOfChar_4cfef 13 = .ok (.aload_n 0, 1) := by decide +kernel
theorem dJ1_indexOfChar_4cfef_14 : decode cJ1_indexOfChar_4cfef 14 = .ok (.iload 5, 2) := by decide +kernel
theorem dJ1_indexOfChar_4cfef_16 : decode cJ1_indexOfChar_4cfef 16 = .ok (.baload, 1) := by decide +kernel
theorem dJ1_indexOfChar_4cfef_17 : decode cJ1_indexOfChar_4cfef 17 = .ok (.iload 4, 2) := by decide +kernel
theorem dJ1_indexOfChar_4cfef_19 : decode cJ1_indexOfChar_4cfef 19 = .ok (.if_icmp .ne 6, 3) := by decide +kernel
theorem dJ1_indexOfChar_4cfef_22 : decode cJ1_indexOfChar_4cfef 22 = .ok (.iload 5, 2) := by decide +kernel
theorem dJ1_indexOfChar_4cfef_24 : decode cJ1_indexOfChar_4cfef 24 = .ok (.ireturn, 1) := by decide +kernel
theorem dJ1_indexOfChar_4cfef_25 : decode cJ1_indexOfChar_4cfef 25 = .ok (.iinc 5 1, 3) := by decide +kernel
theorem dJ1_indexOfChar_4cfef_28 : decode cJ1_indexOfChar_4cfef 28 = .ok (.goto (-21), 3) := by decide +kernel
theorem dJ1_indexOfChar_4cfef_31 : decode cJ1_indexOfChar_4cfef 31 = .ok (.iconst (-1), 1) := by decide +kernel
theorem dJ1_indexOfChar_4cfef_32 : decode cJ1_indexOfChar_4cfef 32 = .ok (.ireturn, 1) := by decide +kernel
def wpJ1_indexOfChar_4cfef_7 (C : CT) (I7 : Int32 → Int32 → Int32 → Int32 → Int32 → Mem → Prop) (n0 : Nat) (x1 : Int32) (x2 : Int32) (x3 : Int32) (x4 : Int32) (x5 : Int32) (V : Mem) (Q : Option AV → Mem → Prop) : Prop :=
  ((x3 ≤ x5 → Q (some (aI (-1))) V) ∧ (¬ x3 ≤ x5 → (∃ j_1 : Nat, x5 = nI j_1 ∧ j_1 < (lenS.getD n0 0) ∧ ((¬ ((bytS.getD n0 []).getD j_1 0) = x4 → I7 x1 x2 x3 x4 (x5 + 1) V) ∧ (((bytS.getD n0 []).getD j_1 0) = x4 → Q (some (aI x5)) V)))))
set_option maxRecDepth 10000 in
theorem okJ1_indexOfChar_4cfef_7 {d : Nat} {P : Option AV → Mem → Prop} {I7 : Int32 → Int32 → Int32 → Int32 → Int32 → Mem → Prop} (n0 : Nat) (h_n0 : n0 < 6) (x1 : Int32) (x2 : Int32) (x3 : Int32) (x4 : Int32) (x5 : Int32)  (V : Mem) (hk7 : ∀ (x1 : Int32) (x2 : Int32) (x3 : Int32) (x4 : Int32) (x5 : Int32), ∀ (V : Mem), I7 x1 x2 x3 x4 x5 V → Gq (Kp (d + 1) mJ1_indexOfChar_4cfef UX P) UX cJ1_indexOfChar_4cfef 6 RJ1 7 [(0, aR 62 n0), (1, aI x1), (2, aI x2), (3, aI x3), (4, aI x4), (5, aI x5)] [] V) (h : wpJ1_indexOfChar_4cfef_7 (Cl UX d) I7 n0 x1 x2 x3 x4 x5 V P) : Gq (Kp (d + 1) mJ1_indexOfChar_4cfef UX P) UX cJ1_indexOfChar_4cfef 6 RJ1 7 [(0, aR 62 n0), (1, aI x1), (2, aI x2), (3, aI x3), (4, aI x4), (5, aI x5)] [] V := by
  unfold wpJ1_indexOfChar_4cfef_7 at h
  refine go_iload (q := 5) dJ1_indexOfChar_4cfef_7 rfl ?_
  refine go_iload_n (q := 3) dJ1_indexOfChar_4cfef_9 rfl rfl ?_
  refine go_icmp_ge (tgt := 31) dJ1_indexOfChar_4cfef_10 (by decide) (fun c_3 => ?_) (fun c_3 => ?_)
  · have h := h.1 c_3
    refine go_iconst (v := (-1)) dJ1_indexOfChar_4cfef_31 (by decide) ?_
    exact go_iret rfl dJ1_indexOfChar_4cfef_32 h
  · have h := h.2 c_3
    refine go_aload_n (q := 0) dJ1_indexOfChar_4cfef_13 rfl rfl ?_
    refine go_iload (q := 5) dJ1_indexOfChar_4cfef_14 rfl ?_
    obtain ⟨j_1, e_j_1, l_j_1, h⟩ := h
    refine go_tb (j := j_1) dJ1_indexOfChar_4cfef_16 (by omega) e_j_1 l_j_1 ?_
    refine go_iload (q := 4) dJ1_indexOfChar_4cfef_17 rfl ?_
    refine go_icmp_ne (tgt := 25) dJ1_indexOfChar_4cfef_19 (by decide) (fun c_2 => ?_) (fun c_2 => ?_)
    · have h := h.1 c_2
      refine go_iinc (q := 5) (y := 1) (al1 := [(5, aI (x5 + 1)), (0, aR 62 n0), (1, aI x1), (2, aI x2), (3, aI x3), (4, aI x4)]) dJ1_indexOfChar_4cfef_25 rfl (by decide) (by decide) rfl ?_
      refine go_goto (tgt := 7) dJ1_indexOfChar_4cfef_28 (by decide) ?_
      refine go_sub (al1 := [(0, aR 62 n0), (1, aI x1), (2, aI x2), (3, aI x3), (4, aI x4), (5, aI (x5 + 1))]) [1, 2, 3, 4, 5, 0] rfl ?_
      exact hk7 x1 x2 x3 x4 (x5 + 1)  V h
    · have h := h.2 c_2
      refine go_iload (q := 5) dJ1_indexOfChar_4cfef_22 rfl ?_
      exact go_iret rfl dJ1_indexOfChar_4cfef_24 h
def wpJ1_indexOfChar_4cfef_0 (C : CT) (I7 : Int32 → Int32 → Int32 → Int32 → Int32 → Mem → Prop) (n0 : Nat) (x1 : Int32) (x2 : Int32) (x3 : Int32) (V : Mem) (Q : Option AV → Mem → Prop) : Prop :=
  (∀ z_1 : Int32, z_1 = (x1 : Int32).toInt8.toInt32 → I7 x1 x2 x3 z_1 x2 V)
set_option maxRecDepth 10000 in
theorem okJ1_indexOfChar_4cfef_0 {d : Nat} {P : Option AV → Mem → Prop} {I7 : Int32 → Int32 → Int32 → Int32 → Int32 → Mem → Prop} (n0 : Nat) (h_n0 : n0 < 6) (x1 : Int32) (x2 : Int32) (x3 : Int32)  (V : Mem) (hk7 : ∀ (x1 : Int32) (x2 : Int32) (x3 : Int32) (x4 : Int32) (x5 : Int32), ∀ (V : Mem), I7 x1 x2 x3 x4 x5 V → Gq (Kp (d + 1) mJ1_indexOfChar_4cfef UX P) UX cJ1_indexOfChar_4cfef 6 RJ1 7 [(0, aR 62 n0), (1, aI x1), (2, aI x2), (3, aI x3), (4, aI x4), (5, aI x5)] [] V) (h : wpJ1_indexOfChar_4cfef_0 (Cl UX d) I7 n0 x1 x2 x3 V P) : Gq (Kp (d + 1) mJ1_indexOfChar_4cfef UX P) UX cJ1_indexOfChar_4cfef 6 RJ1 0 [(0, aR 62 n0), (1, aI x1), (2, aI x2), (3, aI x3)] [] V := by
  unfold wpJ1_indexOfChar_4cfef_0 at h
  refine go_iload_n (q := 1) dJ1_indexOfChar_4cfef_0 rfl rfl ?_
  refine go_i2b dJ1_indexOfChar_4cfef_1 ?_
  refine nmI (fun z_1 e_z_1 => ?_)
  have h := h z_1 e_z_1
  refine go_istore (al1 := [(4, aI z_1), (0, aR 62 n0), (1, aI x1), (2, aI x2), (3, aI x3)]) dJ1_indexOfChar_4cfef_2 (by decide) rfl ?_
  refine go_iload_n (q := 3) dJ1_indexOfChar_4cfef_4 rfl rfl ?_
  refine go_istore (al1 := [(5, aI x2), (4, aI z_1), (0, aR 62 n0), (1, aI x1), (2, aI x2), (3, aI x3)]) dJ1_indexOfChar_4cfef_5 (by decide) rfl ?_
  refine go_sub (al1 := [(0, aR 62 n0), (1, aI x1), (2, aI x2), (3, aI x3), (4, aI z_1), (5, aI x2)]) [2, 3, 4, 5, 1, 0] rfl ?_
  exact hk7 x1 x2 x3 z_1 x2  V h
theorem clJ1_indexOfChar_4cfef {d : Nat} {P : Option AV → Mem → Prop} {I7 : Int32 → Int32 → Int32 → Int32 → Int32 → Mem → Prop} (n0 : Nat) (h_n0 : n0 < 6) (x1 : Int32) (x2 : Int32) (x3 : Int32) (V : Mem) (hk7 : ∀ (x1 : Int32) (x2 : Int32) (x3 : Int32) (x4 : Int32) (x5 : Int32), ∀ (V : Mem), I7 x1 x2 x3 x4 x5 V → Gq (Kp (d + 1) mJ1_indexOfChar_4cfef UX P) UX cJ1_indexOfChar_4cfef 6 RJ1 7 [(0, aR 62 n0), (1, aI x1), (2, aI x2), (3, aI x3), (4, aI x4), (5, aI x5)] [] V) (h : wpJ1_indexOfChar_4cfef_0 (Cl UX d) I7 n0 x1 x2 x3 V P) : Cl UX (d + 1) mJ1_indexOfChar_4cfef [aR 62 n0, aI x1, aI x2, aI x3] V P :=
  cl_of [(0, aR 62 n0), (1, aI x1), (2, aI x2), (3, aI x3)] (by decide) (fun _ => Nat.le_of_ble_eq_true rfl) (fun _ => rfl) (okJ1_indexOfChar_4cfef_0 n0 h_n0 x1 x2 x3 V hk7 h)
theorem dJ1_indexOf_4cfef_0 : decode cJ1_indexOf_4cfef 0 = .ok (.iload_n 1, 1) := by decide +kernel
theorem dJ1_indexOf_4cfef_1 : decode cJ1_indexOf_4cfef 1 = .ok (.invokestatic 88, 3) := by decide +kernel
theorem dJ1_indexOf_4cfef_4 : decode cJ1_indexOf_4cfef 4 = .ok (.ifCond .ne 5, 3) := by decide +kernel
theorem dJ1_indexOf_4cfef_7 : decode cJ1_indexOf_4cfef 7 = .ok (.iconst (-1), 1) := by decide +kernel
theorem dJ1_indexOf_4cfef_8 : decode cJ1_indexOf_4cfef 8 = .ok (.ireturn, 1) := by decide +kernel
theorem dJ1_indexOf_4cfef_9 : decode cJ1_indexOf_4cfef 9 = .ok (.iload_n 2, 1) := by decide +kernel
theorem dJ1_indexOf_4cfef_10 : decode cJ1_indexOf_4cfef 10 = .ok (.iconst 0, 1) := by decide +kernel
theorem dJ1_indexOf_4cfef_11 : decode cJ1_indexOf_4cfef 11 = .ok (.invokestatic 92, 3) := by decide +kernel
theorem dJ1_indexOf_4cfef_14 : decode cJ1_indexOf_4cfef 14 = .ok (.istore_n 2, 1) := by decide +kernel
theorem dJ1_indexOf_4cfef_15 : decode cJ1_indexOf_4cfef 15 = .ok (.iload_n 3, 1) := by decide +kernel
theorem dJ1_indexOf_4cfef_16 : decode cJ1_indexOf_4cfef 16 = .ok (.aload_n 0, 1) := by decide +kernel
theorem dJ1_indexOf_4cfef_17 : decode cJ1_indexOf_4cfef 17 = .ok (.arraylength, 1) := by decide +kernel
theorem dJ1_indexOf_4cfef_18 : decode cJ1_indexOf_4cfef 18 = .ok (.invokestatic 38, 3) := by decide +kernel
theorem dJ1_indexOf_4cfef_21 : decode cJ1_indexOf_4cfef 21 = .ok (.istore_n 3, 1) := by decide +kernel
theorem dJ1_indexOf_4cfef_22 : decode cJ1_indexOf_4cfef 22 = .ok (.iload_n 2, 1) := by decide +kernel
theorem dJ1_indexOf_4cfef_23 : decode cJ1_indexOf_4cfef 23 = .ok (.iload_n 3, 1) := by decide +kernel
theorem dJ1_indexOf_4cfef_24 : decode cJ1_indexOf_4cfef 24 = .ok (.if_icmp .lt 5, 3) := by decide +kernel
theorem dJ1_indexOf_4cfef_27 : decode cJ1_indexOf_4cfef 27 = .ok (.iconst (-1), 1) := by decide +kernel
theorem dJ1_indexOf_4cfef_28 : decode cJ1_indexOf_4cfef 28 = .ok (.ireturn, 1) := by decide +kernel
theorem dJ1_indexOf_4cfef_29 : decode cJ1_indexOf_4cfef 29 = .ok (.aload_n 0, 1) := by decide +kernel
theorem dJ1_indexOf_4cfef_30 : decode cJ1_indexOf_4cfef 30 = .ok (.iload_n 1, 1) := by decide +kernel
theorem dJ1_indexOf_4cfef_31 : decode cJ1_indexOf_4cfef 31 = .ok (.iload_n 2, 1) := by decide +kernel
theorem dJ1_indexOf_4cfef_32 : decode cJ1_indexOf_4cfef 32 = .ok (.iload_n 3, 1) := by decide +kernel
theorem dJ1_indexOf_4cfef_33 : decode cJ1_indexOf_4cfef 33 = .ok (.invokestatic 95, 3) := by decide +kernel
theorem dJ1_indexOf_4cfef_36 : decode cJ1_indexOf_4cfef 36 = .ok (.ireturn, 1) := by decide +kernel
def wpJ1_indexOf_4cfef_0 (C : CT)  (n0 : Nat) (x1 : Int32) (x2 : Int32) (x3 : Int32) (V : Mem) (Q : Option AV → Mem → Prop) : Prop :=
  (cI C mJ1_canEncode_9a6ad [aI x1] V (fun x_2 V_1 => ((¬ x_2 = 0 → (∀ z_3 : Int32, z_3 = (if x2 < 0 then 0 else x2) → (∀ z_4 : Int32, z_4 = (if (nI (lenS.getD n0 0)) < x3 then (nI (lenS.getD n0 0)) else x3) → ((z_3 < z_4 → (cI C mJ1_indexOfChar_4cfef [aR 62 n0, aI x1, aI z_3, aI z_4] V_1 (fun x_6 V_5 => Q (some (aI x_6)) V_5))) ∧ (¬ z_3 < z_4 → Q (some (aI (-1))) V_1))))) ∧ (x_2 = 0 → Q (some (aI (-1))) V_1))))
set_option maxRecDepth 10000 in
theorem okJ1_indexOf_4cfef_0 {d : Nat} {P : Option AV → Mem → Prop}  (n0 : Nat) (h_n0 : n0 < 6) (x1 : Int32) (x2 : Int32) (x3 : Int32)  (V : Mem)  (h : wpJ1_indexOf_4cfef_0 (Cl UX d)  n0 x1 x2 x3 V P) : Gq (Kp (d + 1) mJ1_indexOf_4cfef UX P) UX cJ1_indexOf_4cfef 4 RJ1 0 [(0, aR 62 n0), (1, aI x1), (2, aI x2), (3, aI x3)] [] V := by
  unfold wpJ1_indexOf_4cfef_0 at h
  refine go_iload_n (q := 1) dJ1_indexOf_4cfef_0 rfl rfl ?_
  refine go_cSI (As := [aI x1]) (st := []) ms_J1_canEncode_9a6ad dJ1_indexOf_4cfef_1 ml_J1_88 (hr_Kp (Nat.le_refl d)) rfl rfl (Nat.le_of_ble_eq_true rfl) h (fun x_2 V_1 h => ?_)
  refine go_if_ne (tgt := 9) dJ1_indexOf_4cfef_4 (by decide) (fun c_8 => ?_) (fun c_8 => ?_)
  · have h := h.1 c_8
    refine go_iload_n (q := 2) dJ1_indexOf_4cfef_9 rfl rfl ?_
    refine go_iconst (v := 0) dJ1_indexOf_4cfef_10 (by decide) ?_
    refine go_mmax ml_J1_92 mt_max1 mt_ini mt_max2 (hr_Kp (Nat.zero_le d)) (Nat.le_of_ble_eq_true rfl) dJ1_indexOf_4cfef_11 ?_
    refine nmI (fun z_3 e_z_3 => ?_)
    have h := h z_3 e_z_3
    refine go_istore_n (al1 := [(2, aI z_3), (0, aR 62 n0), (1, aI x1), (3, aI x3)]) dJ1_indexOf_4cfef_14 rfl (by decide) rfl ?_
    refine go_iload_n (q := 3) dJ1_indexOf_4cfef_15 rfl rfl ?_
    refine go_aload_n (q := 1) dJ1_indexOf_4cfef_16 rfl rfl ?_
    refine go_tlen dJ1_indexOf_4cfef_17 (by omega) ?_
    refine go_mmin ml_J1_38 mt_min1 mt_ini mt_min2 (hr_Kp (Nat.zero_le d)) (Nat.le_of_ble_eq_true rfl) dJ1_indexOf_4cfef_18 ?_
    refine nmI (fun z_4 e_z_4 => ?_)
    have h := h z_4 e_z_4
    refine go_istore_n (al1 := [(3, aI z_4), (2, aI z_3), (0, aR 62 n0), (1, aI x1)]) dJ1_indexOf_4cfef_21 rfl (by decide) rfl ?_
    refine go_iload_n (q := 1) dJ1_indexOf_4cfef_22 rfl rfl ?_
    refine go_iload_n (q := 0) dJ1_indexOf_4cfef_23 rfl rfl ?_
    refine go_icmp_lt (tgt := 29) dJ1_indexOf_4cfef_24 (by decide) (fun c_7 => ?_) (fun c_7 => ?_)
    · have h := h.1 c_7
      refine go_aload_n (q := 2) dJ1_indexOf_4cfef_29 rfl rfl ?_
      refine go_iload_n (q := 3) dJ1_indexOf_4cfef_30 rfl rfl ?_
      refine go_iload_n (q := 1) dJ1_indexOf_4cfef_31 rfl rfl ?_
      refine go_iload_n (q := 0) dJ1_indexOf_4cfef_32 rfl rfl ?_
      refine go_cSI (As := [aR 62 n0, aI x1, aI z_3, aI z_4]) (st := []) ms_J1_indexOfChar_4cfef dJ1_indexOf_4cfef_33 ml_J1_95 (hr_Kp (Nat.le_refl d)) rfl rfl (Nat.le_of_ble_eq_true rfl) h (fun x_6 V_5 h => ?_)
      exact go_iret rfl dJ1_indexOf_4cfef_36 h
    · have h := h.2 c_7
      refine go_iconst (v := (-1)) dJ1_indexOf_4cfef_27 (by decide) ?_
      exact go_iret rfl dJ1_indexOf_4cfef_28 h
  · have h := h.2 c_8
    refine go_iconst (v := (-1)) dJ1_indexOf_4cfef_7 (by decide) ?_
    exact go_iret rfl dJ1_indexOf_4cfef_8 h
theorem clJ1_indexOf_4cfef {d : Nat} {P : Option AV → Mem → Prop}  (n0 : Nat) (h_n0 : n0 < 6) (x1 : Int32) (x2 : Int32) (x3 : Int32) (V : Mem)  (h : wpJ1_indexOf_4cfef_0 (Cl UX d)  n0 x1 x2 x3 V P) : Cl UX (d + 1) mJ1_indexOf_4cfef [aR 62 n0, aI x1, aI x2, aI x3] V P :=
  cl_of [(0, aR 62 n0), (1, aI x1), (2, aI x2), (3, aI x3)] (by decide) (fun _ => Nat.le_of_ble_eq_true rfl) (fun _ => rfl) (okJ1_indexOf_4cfef_0 n0 h_n0 x1 x2 x3 V  h)
theorem dJ0_indexOf_7cf53_0 : decode cJ0_indexOf_7cf53 0 = .ok (.aload_n 0, 1) := by decide +kernel
theorem dJ0_indexOf_7cf53_1 : decode cJ0_indexOf_7cf53 1 = .ok (.invokevirtual 492, 3) := by decide +kernel
theorem dJ0_indexOf_7cf53_4 : decode cJ0_indexOf_7cf53 4 = .ok (.ifCond .eq 19, 3) := by decide +kernel
theorem dJ0_indexOf_7cf53_7 : decode cJ0_indexOf_7cf53 7 = .ok (.aload_n 0, 1) := by decide +kernel
theorem dJ0_indexOf_7cf53_8 : decode cJ0_indexOf_7cf53 8 = .ok (.getfield 9, 3) := by decide +kernel
theorem dJ0_indexOf_7cf53_11 : decode cJ0_indexOf_7cf53 11 = .ok (.iload_n 1, 1) := by decide +kernel
theorem dJ0_indexOf_7cf53_12 : decode cJ0_indexOf_7cf53 12 = .ok (.iload_n 2, 1) := by decide +kernel
theorem dJ0_indexOf_7cf53_13 : decode cJ0_indexOf_7cf53 13 = .ok (.aload_n 0, 1) := by decide +kernel
theorem dJ0_indexOf_7cf53_14 : decode cJ0_indexOf_7cf53 14 = .ok (.invokevirtual 505, 3) := by decide +kernel
theorem dJ0_indexOf_7cf53_17 : decode cJ0_indexOf_7cf53 17 = .ok (.invokestatic 637, 3) := by decide +kernel
theorem dJ0_indexOf_7cf53_20 : decode cJ0_indexOf_7cf53 20 = .ok (.goto 16, 3) := by decide +kernel
theorem dJ0_indexOf_7cf53_23 : decode cJ0_indexOf_7cf53 23 = .ok (.aload_n 0, 1) := by decide +kernel
theorem dJ0_indexOf_7cf53_24 : decode cJ0_indexOf_7cf53 24 = .ok (.getfield 9, 3) := by decide +kernel
theorem dJ0_indexOf_7cf53_27 : decode cJ0_indexOf_7cf53 27 = .ok (.iload_n 1, 1) := by decide +kernel
theorem dJ0_indexOf_7cf53_28 : decode cJ0_indexOf_7cf53 28 = .ok (.iload_n 2, 1) := by decide +kernel
theorem dJ0_indexOf_7cf53_29 : decode cJ0_indexOf_7cf53 29 = .ok (.aload_n 0, 1) := by decide +kernel
theorem dJ0_indexOf_7cf53_30 : decode cJ0_indexOf_7cf53 30 = .ok (.invokevirtual 505, 3) := by decide +kernel
theorem dJ0_indexOf_7cf53_33 : decode cJ0_indexOf_7cf53 33 = .ok (.invokestatic 640, 3) := by decide +kernel
theorem dJ0_indexOf_7cf53_36 : decode cJ0_indexOf_7cf53 36 = .ok (.ireturn, 1) := by decide +kernel
def wpJ0_indexOf_7cf53_0 (C : CT)  (i0 : Nat) (x1 : Int32) (x2 : Int32) (V : Mem) (Q : Option AV → Mem → Prop) : Prop :=
  (cI C mJ0_isLatin1_aae02 [aR 61 i0] V (fun x_2 V_1 => ((x_2 = 0 → (cI C mJ0_length_8abf5 [aR 61 i0] V_1 (fun x_4 V_3 => (cI C mJ2_indexOf_4cfef [aR 62 i0, aI x1, aI x2, aI x_4] V_3 (fun x_6 V_5 => Q (some (aI x_6)) V_5))))) ∧ (¬ x_2 = 0 → (cI C mJ0_length_8abf5 [aR 61 i0] V_1 (fun x_8 V_7 => (cI C mJ1_indexOf_4cfef [aR 62 i0, aI x1, aI x2, aI x_8] V_7 (fun x_10 V_9 => Q (some (aI x_10)) V_9))))))))
set_option maxRecDepth 10000 in
theorem okJ0_indexOf_7cf53_0 {d : Nat} {P : Option AV → Mem → Prop}  (i0 : Nat) (h_i0 : i0 < 6) (x1 : Int32) (x2 : Int32)  (V : Mem)  (h : wpJ0_indexOf_7cf53_0 (Cl UX d)  i0 x1 x2 V P) : Gq (Kp (d + 1) mJ0_indexOf_7cf53 UX P) UX cJ0_indexOf_7cf53 3 RJ0 0 [(0, aR 61 i0), (1, aI x1), (2, aI x2)] [] V := by
  unfold wpJ0_indexOf_7cf53_0 at h
  refine go_aload_n (q := 0) dJ0_indexOf_7cf53_0 rfl rfl ?_
  refine go_cTI (As := []) (st := []) (i := i0) mv_J0_isLatin1_aae02 dJ0_indexOf_7cf53_1 ml_J0_492 (hr_Kp (Nat.le_refl d)) rfl (by omega) rfl rfl (Nat.le_of_ble_eq_true rfl) h (fun x_2 V_1 h => ?_)
  refine go_if_eq (tgt := 23) dJ0_indexOf_7cf53_4 (by decide) (fun c_11 => ?_) (fun c_11 => ?_)
  · have h := h.1 c_11
    refine go_aload_n (q := 0) dJ0_indexOf_7cf53_23 rfl rfl ?_
    refine go_strV dJ0_indexOf_7cf53_24 rfl rfl (by omega) ?_
    refine go_iload_n (q := 1) dJ0_indexOf_7cf53_27 rfl rfl ?_
    refine go_iload_n (q := 2) dJ0_indexOf_7cf53_28 rfl rfl ?_
    refine go_aload_n (q := 0) dJ0_indexOf_7cf53_29 rfl rfl ?_
    refine go_cTI (As := []) (st := [aI x2, aI x1, aR 62 i0]) (i := i0) mv_J0_length_8abf5 dJ0_indexOf_7cf53_30 ml_J0_505 (hr_Kp (Nat.le_refl d)) rfl (by omega) rfl rfl (Nat.le_of_ble_eq_true rfl) h (fun x_4 V_3 h => ?_)
    refine go_cSI (As := [aR 62 i0, aI x1, aI x2, aI x_4]) (st := []) ms_J2_indexOf_4cfef dJ0_indexOf_7cf53_33 ml_J0_640 (hr_Kp (Nat.le_refl d)) rfl rfl (Nat.le_of_ble_eq_true rfl) h (fun x_6 V_5 h => ?_)
    exact go_iret rfl dJ0_indexOf_7cf53_36 h
  · have h := h.2 c_11
    refine go_aload_n (q := 0) dJ0_indexOf_7cf53_7 rfl rfl ?_
    refine go_strV dJ0_indexOf_7cf53_8 rfl rfl (by omega) ?_
    refine go_iload_n (q := 1) dJ0_indexOf_7cf53_11 rfl rfl ?_
    refine go_iload_n (q := 2) dJ0_indexOf_7cf53_12 rfl rfl ?_
    refine go_aload_n (q := 0) dJ0_indexOf_7cf53_13 rfl rfl ?_
    refine go_cTI (As := []) (st := [aI x2, aI x1, aR 62 i0]) (i := i0) mv_J0_length_8abf5 dJ0_indexOf_7cf53_14 ml_J0_505 (hr_Kp (Nat.le_refl d)) rfl (by omega) rfl rfl (Nat.le_of_ble_eq_true rfl) h (fun x_8 V_7 h => ?_)
    refine go_cSI (As := [aR 62 i0, aI x1, aI x2, aI x_8]) (st := []) ms_J1_indexOf_4cfef dJ0_indexOf_7cf53_17 ml_J0_637 (hr_Kp (Nat.le_refl d)) rfl rfl (Nat.le_of_ble_eq_true rfl) h (fun x_10 V_9 h => ?_)
    refine go_goto (tgt := 36) dJ0_indexOf_7cf53_20 (by decide) ?_
    exact go_iret rfl dJ0_indexOf_7cf53_36 h
theorem clJ0_indexOf_7cf53 {d : Nat} {P : Option AV → Mem → Prop}  (i0 : Nat) (h_i0 : i0 < 6) (x1 : Int32) (x2 : Int32) (V : Mem)  (h : wpJ0_indexOf_7cf53_0 (Cl UX d)  i0 x1 x2 V P) : Cl UX (d + 1) mJ0_indexOf_7cf53 [aR 61 i0, aI x1, aI x2] V P :=
  cl_of [(0, aR 61 i0), (1, aI x1), (2, aI x2)] (by decide) (fun _ => Nat.le_of_ble_eq_true rfl) (fun _ => rfl) (okJ0_indexOf_7cf53_0 i0 h_i0 x1 x2 V  h)
theorem dJ0_indexOf_0f7a4_0 : decode cJ0_indexOf_0f7a4 0 = .ok (.aload_n 0, 1) := by decide +kernel
theorem dJ0_indexOf_0f7a4_1 : decode cJ0_indexOf_0f7a4 1 = .ok (.iload_n 1, 1) := by decide +kernel
theorem dJ0_indexOf_0f7a4_2 : decode cJ0_indexOf_0f7a4 2 = .ok (.iconst 0, 1) := by decide +kernel
theorem dJ0_indexOf_0f7a4_3 : decode cJ0_indexOf_0f7a4 3 = .ok (.invokevirtual 633, 3) := by decide +kernel
theorem dJ0_indexOf_0f7a4_6 : decode cJ0_indexOf_0f7a4 6 = .ok (.ireturn, 1) := by decide +kernel
def wpJ0_indexOf_0f7a4_0 (C : CT)  (i0 : Nat) (x1 : Int32) (V : Mem) (Q : Option AV → Mem → Prop) : Prop :=
  (cI C mJ0_indexOf_7cf53 [aR 61 i0, aI x1, aI 0] V (fun x_2 V_1 => Q (some (aI x_2)) V_1))
set_option maxRecDepth 10000 in
theorem okJ0_indexOf_0f7a4_0 {d : Nat} {P : Option AV → Mem → Prop}  (i0 : Nat) (h_i0 : i0 < 6) (x1 : Int32)  (V : Mem)  (h : wpJ0_indexOf_0f7a4_0 (Cl UX d)  i0 x1 V P) : Gq (Kp (d + 1) mJ0_indexOf_0f7a4 UX P) UX cJ0_indexOf_0f7a4 2 RJ0 0 [(0, aR 61 i0), (1, aI x1)] [] V := by
  unfold wpJ0_indexOf_0f7a4_0 at h
  refine go_aload_n (q := 0) dJ0_indexOf_0f7a4_0 rfl rfl ?_
  refine go_iload_n (q := 1) dJ0_indexOf_0f7a4_1 rfl rfl ?_
  refine go_iconst (v := 0) dJ0_indexOf_0f7a4_2 (by decide) ?_
  refine go_cTI (As := [aI x1, aI 0]) (st := []) (i := i0) mv_J0_indexOf_7cf53 dJ0_indexOf_0f7a4_3 ml_J0_633 (hr_Kp (Nat.le_refl d)) rfl (by omega) rfl rfl (Nat.le_of_ble_eq_true rfl) h (fun x_2 V_1 h => ?_)
  exact go_iret rfl dJ0_indexOf_0f7a4_6 h
theorem clJ0_indexOf_0f7a4 {d : Nat} {P : Option AV → Mem → Prop}  (i0 : Nat) (h_i0 : i0 < 6) (x1 : Int32) (V : Mem)  (h : wpJ0_indexOf_0f7a4_0 (Cl UX d)  i0 x1 V P) : Cl UX (d + 1) mJ0_indexOf_0f7a4 [aR 61 i0, aI x1] V P :=
  cl_of [(0, aR 61 i0), (1, aI x1)] (by decide) (fun _ => Nat.le_of_ble_eq_true rfl) (fun _ => rfl) (okJ0_indexOf_0f7a4_0 i0 h_i0 x1 V  h)
theorem dX1_keyWord_0 : decode cX1_keyWord 0 = .ok (.iload_n 0, 1) := by decide +kernel
theorem dX1_keyWord_1 : decode cX1_keyWord 1 = .ok (.lookupswitch 33 #[(0, 27), (1, 30)], 27) := by decide +kernel
theorem dX1_keyWord_28 : decode cX1_keyWord 28 = .ok (.ldc 100, 2) := by decide +kernel
theorem dX1_keyWord_30 : decode cX1_keyWord 30 = .ok (.areturn, 1) := by decide +kernel
theorem dX1_keyWord_31 : decode cX1_keyWord 31 = .ok (.ldc 102, 2) := by decide +kernel
theorem dX1_keyWord_33 : decode cX1_keyWord 33 = .ok (.areturn, 1) := by decide +kernel
theorem dX1_keyWord_34 : decode cX1_keyWord 34 = .ok (.ldc 104, 2) := by decide +kernel
theorem dX1_keyWord_36 : decode cX1_keyWord 36 = .ok (.areturn, 1) := by decide +kernel
def wpX1_keyWord_0 (C : CT)   (x0 : Int32) (V : Mem) (Q : Option AV → Mem → Prop) : Prop :=
  ((x0 = 0 → Q (some (aR 61 0)) V) ∧ (x0 = 1 → Q (some (aR 61 1)) V) ∧ (¬ x0 = 0 ∧ ¬ x0 = 1 → Q (some (aR 61 2)) V))
set_option maxRecDepth 10000 in
theorem okX1_keyWord_0 {d : Nat} {P : Option AV → Mem → Prop}    (x0 : Int32)  (V : Mem)  (h : wpX1_keyWord_0 (Cl UX d)   x0 V P) : Gq (Kp (d + 1) mX1_keyWord UX P) UX cX1_keyWord 1 RX1 0 [(0, aI x0)] [] V := by
  unfold wpX1_keyWord_0 at h
  refine go_iload_n (q := 0) dX1_keyWord_0 rfl rfl ?_
  by_cases c1_0 : x0 = 0
  · have h := h.1 c1_0
    refine go_lookC (z := 0) (off := 27) (tgt := 28) c1_0 dX1_keyWord_1 (by decide) (by decide) (by decide) ?_
    refine go_ldcS0 dX1_keyWord_28 rfl rfl ?_
    exact go_aret rfl dX1_keyWord_30 h
  by_cases c1_1 : x0 = 1
  · have h := h.2.1 c1_1
    refine go_lookC (z := 1) (off := 30) (tgt := 31) c1_1 dX1_keyWord_1 (by decide) (by decide) (by decide) ?_
    refine go_ldcS1 dX1_keyWord_31 rfl rfl ?_
    exact go_aret rfl dX1_keyWord_33 h
  have h := h.2.2 ⟨c1_0, c1_1⟩
  refine go_lookup (off := 33) (tgt := 34) dX1_keyWord_1 (by decide) (by show Op.lookupswitch.offset [(0, 27), (1, 30)] _ _ = _; rw [lv_osw c1_0 (show (0 : Int32).toInt = 0 from rfl), lv_osw c1_1 (show (1 : Int32).toInt = 1 from rfl)]; rfl) (by decide) ?_
  refine go_ldcS2 dX1_keyWord_34 rfl rfl ?_
  exact go_aret rfl dX1_keyWord_36 h
theorem clX1_keyWord {d : Nat} {P : Option AV → Mem → Prop}    (x0 : Int32) (V : Mem)  (h : wpX1_keyWord_0 (Cl UX d)   x0 V P) : Cl UX (d + 1) mX1_keyWord [aI x0] V P :=
  cl_of [(0, aI x0)] (by decide) (fun _ => Nat.le_of_ble_eq_true rfl) (fun _ => rfl) (okX1_keyWord_0   x0 V  h)
theorem dX1_namesOf_0 : decode cX1_namesOf 0 = .ok (.iload_n 0, 1) := by decide +kernel
theorem dX1_namesOf_1 : decode cX1_namesOf 1 = .ok (.lookupswitch 33 #[(0, 27), (1, 30)], 27) := by decide +kernel
theorem dX1_namesOf_28 : decode cX1_namesOf 28 = .ok (.ldc 106, 2) := by decide +kernel
theorem dX1_namesOf_30 : decode cX1_namesOf 30 = .ok (.areturn, 1) := by decide +kernel
theorem dX1_namesOf_31 : decode cX1_namesOf 31 = .ok (.ldc 108, 2) := by decide +kernel
theorem dX1_namesOf_33 : decode cX1_namesOf 33 = .ok (.areturn, 1) := by decide +kernel
theorem dX1_namesOf_34 : decode cX1_namesOf 34 = .ok (.ldc 110, 2) := by decide +kernel
theorem dX1_namesOf_36 : decode cX1_namesOf 36 = .ok (.areturn, 1) := by decide +kernel
def wpX1_namesOf_0 (C : CT)   (x0 : Int32) (V : Mem) (Q : Option AV → Mem → Prop) : Prop :=
  ((x0 = 0 → Q (some (aR 61 3)) V) ∧ (x0 = 1 → Q (some (aR 61 4)) V) ∧ (¬ x0 = 0 ∧ ¬ x0 = 1 → Q (some (aR 61 5)) V))
set_option maxRecDepth 10000 in
theorem okX1_namesOf_0 {d : Nat} {P : Option AV → Mem → Prop}    (x0 : Int32)  (V : Mem)  (h : wpX1_namesOf_0 (Cl UX d)   x0 V P) : Gq (Kp (d + 1) mX1_namesOf UX P) UX cX1_namesOf 1 RX1 0 [(0, aI x0)] [] V := by
  unfold wpX1_namesOf_0 at h
  refine go_iload_n (q := 0) dX1_namesOf_0 rfl rfl ?_
  by_cases c1_0 : x0 = 0
  · have h := h.1 c1_0
    refine go_lookC (z := 0) (off := 27) (tgt := 28) c1_0 dX1_namesOf_1 (by decide) (by decide) (by decide) ?_
    refine go_ldcS3 dX1_namesOf_28 rfl rfl ?_
    exact go_aret rfl dX1_namesOf_30 h
  by_cases c1_1 : x0 = 1
  · have h := h.2.1 c1_1
    refine go_lookC (z := 1) (off := 30) (tgt := 31) c1_1 dX1_namesOf_1 (by decide) (by decide) (by decide) ?_
    refine go_ldcS4 dX1_namesOf_31 rfl rfl ?_
    exact go_aret rfl dX1_namesOf_33 h
  have h := h.2.2 ⟨c1_0, c1_1⟩
  refine go_lookup (off := 33) (tgt := 34) dX1_namesOf_1 (by decide) (by show Op.lookupswitch.offset [(0, 27), (1, 30)] _ _ = _; rw [lv_osw c1_0 (show (0 : Int32).toInt = 0 from rfl), lv_osw c1_1 (show (1 : Int32).toInt = 1 from rfl)]; rfl) (by decide) ?_
  refine go_ldcS5 dX1_namesOf_34 rfl rfl ?_
  exact go_aret rfl dX1_namesOf_36 h
theorem clX1_namesOf {d : Nat} {P : Option AV → Mem → Prop}    (x0 : Int32) (V : Mem)  (h : wpX1_namesOf_0 (Cl UX d)   x0 V P) : Cl UX (d + 1) mX1_namesOf [aI x0] V P :=
  cl_of [(0, aI x0)] (by decide) (fun _ => Nat.le_of_ble_eq_true rfl) (fun _ => rfl) (okX1_namesOf_0   x0 V  h)
theorem dX1_nameRead_0 : decode cX1_nameRead 0 = .ok (.aload_n 0, 1) := by decide +kernel
theorem dX1_nameRead_1 : decode cX1_nameRead 1 = .ok (.getfield 28, 3) := by decide +kernel
theorem dX1_nameRead_4 : decode cX1_nameRead 4 = .ok (.aload_n 0, 1) := by decide +kernel
theorem dX1_nameRead_5 : decode cX1_nameRead 5 = .ok (.getfield 64, 3) := by decide +kernel
theorem dX1_nameRead_8 : decode cX1_nameRead 8 = .ok (.isub, 1) := by decide +kernel
theorem dX1_nameRead_9 : decode cX1_nameRead 9 = .ok (.iconst 1, 1) := by decide +kernel
theorem dX1_nameRead_10 : decode cX1_nameRead 10 = .ok (.if_icmp .ne 26, 3) := by decide +kernel
theorem dX1_nameRead_13 : decode cX1_nameRead 13 = .ok (.aload_n 0, 1) := by decide +kernel
theorem dX1_nameRead_14 : decode cX1_nameRead 14 = .ok (.getfield 53, 3) := by decide +kernel
theorem dX1_nameRead_17 : decode cX1_nameRead 17 = .ok (.invokestatic 85, 3) := by decide +kernel
theorem dX1_nameRead_20 : decode cX1_nameRead 20 = .ok (.aload_n 0, 1) := by decide +kernel
theorem dX1_nameRead_21 : decode cX1_nameRead 21 = .ok (.getfield 15, 3) := by decide +kernel
theorem dX1_nameRead_24 : decode cX1_nameRead 24 = .ok (.aload_n 0, 1) := by decide +kernel
theorem dX1_nameRead_25 : decode cX1_nameRead 25 = .ok (.getfield 64, 3) := by decide +kernel
theorem dX1_nameRead_28 : decode cX1_nameRead 28 = .ok (.iaload, 1) := by decide +kernel
theorem dX1_nameRead_29 : decode cX1_nameRead 29 = .ok (.i2c, 1) := by decide +kernel
theorem dX1_nameRead_30 : decode cX1_nameRead 30 = .ok (.invokevirtual 88, 3) := by decide +kernel
theorem dX1_nameRead_33 : decode cX1_nameRead 33 = .ok (.goto 4, 3) := by decide +kernel
theorem dX1_nameRead_36 : decode cX1_nameRead 36 = .ok (.iconst (-1), 1) := by decide +kernel
theorem dX1_nameRead_37 : decode cX1_nameRead 37 = .ok (.ireturn, 1) := by decide +kernel
def wpX1_nameRead_0 (C : CT)    (V : Mem) (Q : Option AV → Mem → Prop) : Prop :=
  ((¬ ((V 6 0 6) - (V 6 0 5)) = 1 → Q (some (aI (-1))) V) ∧ (((V 6 0 6) - (V 6 0 5)) = 1 → (cR C mX1_namesOf [aI (V 6 0 3)] V 61 (fun k_2 V_1 => k_2 < 6 ∧ (∃ j_3 : Nat, (V_1 6 0 5) = nI j_3 ∧ j_3 < 96 ∧ (cI C mJ0_indexOf_0f7a4 [aR 61 k_2, aI ((((V_1 17 0 j_3) : Int32).toUInt32 % 65536).toInt32)] V_1 (fun x_5 V_4 => Q (some (aI x_5)) V_4)))))))
set_option maxRecDepth 10000 in
theorem okX1_nameRead_0 {d : Nat} {P : Option AV → Mem → Prop}      (V : Mem)  (h : wpX1_nameRead_0 (Cl UX d)    V P) : Gq (Kp (d + 1) mX1_nameRead UX P) UX cX1_nameRead 1 RX1 0 [(0, aR 6 0)] [] V := by
  unfold wpX1_nameRead_0 at h
  refine go_aload_n (q := 0) dX1_nameRead_0 rfl rfl ?_
  refine go_geti fg_X1_28 dX1_nameRead_1 (mX (n := 1) (by decide) rfl (by omega)) ?_
  refine go_aload_n (q := 0) dX1_nameRead_4 rfl rfl ?_
  refine go_geti fg_X1_64 dX1_nameRead_5 (mX (n := 1) (by decide) rfl (by omega)) ?_
  refine go_isub dX1_nameRead_8 ?_
  refine go_iconst (v := 1) dX1_nameRead_9 (by decide) ?_
  refine go_icmp_ne (tgt := 36) dX1_nameRead_10 (by decide) (fun c_6 => ?_) (fun c_6 => ?_)
  · have h := h.1 c_6
    refine go_iconst (v := (-1)) dX1_nameRead_36 (by decide) ?_
    exact go_iret rfl dX1_nameRead_37 h
  · have h := h.2 c_6
    refine go_aload_n (q := 0) dX1_nameRead_13 rfl rfl ?_
    refine go_geti fg_X1_53 dX1_nameRead_14 (mX (n := 1) (by decide) rfl (by omega)) ?_
    refine go_cSR (As := [aI (V 6 0 3)]) (st := []) ms_X1_namesOf dX1_nameRead_17 ml_X1_85 (hr_Kp (Nat.le_refl d)) rfl rfl (Nat.le_of_ble_eq_true rfl) h (fun k_2 V_1 h => ?_)
    obtain ⟨l_k_2, h⟩ := h
    refine go_aload_n (q := 0) dX1_nameRead_20 rfl rfl ?_
    refine go_getr fg_X1_15 dX1_nameRead_21 (mX (n := 1) (by decide) rfl (by omega)) ?_
    refine go_aload_n (q := 0) dX1_nameRead_24 rfl rfl ?_
    refine go_geti fg_X1_64 dX1_nameRead_25 (mX (n := 1) (by decide) rfl (by omega)) ?_
    obtain ⟨j_3, e_j_3, l_j_3, h⟩ := h
    refine go_iald (r := 17) (n := 96) (j := j_3) rfl (by decide) dX1_nameRead_28 (mX (n := 1) (by decide) rfl (by omega)) e_j_3 l_j_3 ?_
    refine go_i2c dX1_nameRead_29 ?_
    refine go_cTI (As := [aI ((((V_1 17 0 j_3) : Int32).toUInt32 % 65536).toInt32)]) (st := []) (i := k_2) mv_J0_indexOf_0f7a4 dX1_nameRead_30 ml_X1_88 (hr_Kp (Nat.le_refl d)) rfl (by omega) rfl rfl (Nat.le_of_ble_eq_true rfl) h (fun x_5 V_4 h => ?_)
    refine go_goto (tgt := 37) dX1_nameRead_33 (by decide) ?_
    exact go_iret rfl dX1_nameRead_37 h
theorem clX1_nameRead {d : Nat} {P : Option AV → Mem → Prop}     (V : Mem)  (h : wpX1_nameRead_0 (Cl UX d)    V P) : Cl UX (d + 1) mX1_nameRead [aR 6 0] V P :=
  cl_of [(0, aR 6 0)] (by decide) (fun _ => Nat.le_of_ble_eq_true rfl) (fun _ => rfl) (okX1_nameRead_0    V  h)
theorem dX1_isWord_0 : decode cX1_isWord 0 = .ok (.aload_n 0, 1) := by decide +kernel
theorem dX1_isWord_1 : decode cX1_isWord 1 = .ok (.getfield 31, 3) := by decide +kernel
theorem dX1_isWord_4 : decode cX1_isWord 4 = .ok (.iconst 1, 1) := by decide +kernel
theorem dX1_isWord_5 : decode cX1_isWord 5 = .ok (.if_icmp .ne 19, 3) := by decide +kernel
theorem dX1_isWord_8 : decode cX1_isWord 8 = .ok (.aload_n 0, 1) := by decide +kernel
theorem dX1_isWord_9 : decode cX1_isWord 9 = .ok (.getfield 28, 3) := by decide +kernel
theorem dX1_isWord_12 : decode cX1_isWord 12 = .ok (.aload_n 0, 1) := by decide +kernel
theorem dX1_isWord_13 : decode cX1_isWord 13 = .ok (.getfield 64, 3) := by decide +kernel
theorem dX1_isWord_16 : decode cX1_isWord 16 = .ok (.isub, 1) := by decide +kernel
theorem dX1_isWord_17 : decode cX1_isWord 17 = .ok (.aload_n 1, 1) := by decide +kernel
theorem dX1_isWord_18 : decode cX1_isWord 18 = .ok (.invokevirtual 94, 3) := by decide +kernel
theorem dX1_isWord_21 : decode cX1_isWord 21 = .ok (.if_icmp .eq 5, 3) := by decide +kernel
theorem dX1_isWord_24 : decode cX1_isWord 24 = .ok (.iconst 0, 1) := by decide +kernel
theorem dX1_isWord_25 : decode cX1_isWord 25 = .ok (.ireturn, 1) := by decide +kernel
theorem dX1_isWord_26 : decode cX1_isWord 26 = .ok (.iconst 0, 1) := by decide +kernel
theorem dX1_isWord_27 : decode cX1_isWord 27 = .ok (.istore_n 2, 1) := by decide +kernel
theorem dX1_isWord_28 : decode cX1_isWord 28 = .ok (.iload_n 2, 1) := by decide +kernel
theorem dX1_isWord_29 : decode cX1_isWord 29 = .ok (.aload_n 1, 1) := by decide +kernel
theorem dX1_isWord_30 : decode cX1_isWord 30 = .ok (.invokevirtual 94, 3) := by decide +kernel
theorem dX1_isWord_33 : decode cX1_isWord 33 = .ok (.if_icmp .ge 30, 3) := by decide +kernel
theorem dX1_isWord_36 : decode cX1_isWord 36 = .ok (.aload_n 0, 1) := by decide +kernel
theorem dX1_isWord_37 : decode cX1_isWord 37 = .ok (.getfield 15, 3) := by decide +kernel
theorem dX1_isWord_40 : decode cX1_isWord 40 = .ok (.aload_n 0, 1) := by decide +kernel
theorem dX1_isWord_41 : decode cX1_isWord 41 = .ok (.getfield 64, 3) := by decide +kernel
theorem dX1_isWord_44 : decode cX1_isWord 44 = .ok (.iload_n 2, 1) := by decide +kernel
theorem dX1_isWord_45 : decode cX1_isWord 45 = .ok (.iadd, 1) := by decide +kernel
theorem dX1_isWord_46 : decode cX1_isWord 46 = .ok (.iaload, 1) := by decide +kernel
theorem dX1_isWord_47 : decode cX1_isWord 47 = .ok (.aload_n 1, 1) := by decide +kernel
theorem dX1_isWord_48 : decode cX1_isWord 48 = .ok (.iload_n 2, 1) := by decide +kernel
theorem dX1_isWord_49 : decode cX1_isWord 49 = .ok (.invokevirtual 96, 3) := by decide +kernel
theorem dX1_isWord_52 : decode cX1_isWord 52 = .ok (.if_icmp .eq 5, 3) := by decide +kernel
theorem dX1_isWord_55 : decode cX1_isWord 55 = .ok (.iconst 0, 1) := by decide +kernel
theorem dX1_isWord_56 : decode cX1_isWord 56 = .ok (.ireturn, 1) := by decide +kernel
theorem dX1_isWord_57 : decode cX1_isWord 57 = .ok (.iinc 2 1, 3) := by decide +kernel
theorem dX1_isWord_60 : decode cX1_isWord 60 = .ok (.goto (-32), 3) := by decide +kernel
theorem dX1_isWord_63 : decode cX1_isWord 63 = .ok (.iconst 1, 1) := by decide +kernel
theorem dX1_isWord_64 : decode cX1_isWord 64 = .ok (.ireturn, 1) := by decide +kernel
def wpX1_isWord_28 (C : CT) (I28 : Int32 → Mem → Prop) (n1 : Nat) (x2 : Int32) (V : Mem) (Q : Option AV → Mem → Prop) : Prop :=
  (cI C mJ0_length_8abf5 [aR 61 n1] V (fun x_2 V_1 => ((x_2 ≤ x2 → Q (some (aI 1)) V_1) ∧ (¬ x_2 ≤ x2 → (∃ j_3 : Nat, ((V_1 6 0 5) + x2) = nI j_3 ∧ j_3 < 96 ∧ (cI C mJ0_charAt_5068e [aR 61 n1, aI x2] V_1 (fun x_5 V_4 => (((V_1 17 0 j_3) = x_5 → I28 (x2 + 1) V_4) ∧ (¬ (V_1 17 0 j_3) = x_5 → Q (some (aI 0)) V_4)))))))))
set_option maxRecDepth 10000 in
theorem okX1_isWord_28 {d : Nat} {P : Option AV → Mem → Prop} {I28 : Int32 → Mem → Prop} (n1 : Nat) (h_n1 : n1 < 6) (x2 : Int32)  (V : Mem) (hk28 : ∀ (x2 : Int32), ∀ (V : Mem), I28 x2 V → Gq (Kp (d + 1) mX1_isWord UX P) UX cX1_isWord 3 RX1 28 [(0, aR 6 0), (1, aR 61 n1), (2, aI x2)] [] V) (h : wpX1_isWord_28 (Cl UX d) I28 n1 x2 V P) : Gq (Kp (d + 1) mX1_isWord UX P) UX cX1_isWord 3 RX1 28 [(0, aR 6 0), (1, aR 61 n1), (2, aI x2)] [] V := by
  unfold wpX1_isWord_28 at h
  refine go_iload_n (q := 2) dX1_isWord_28 rfl rfl ?_
  refine go_aload_n (q := 1) dX1_isWord_29 rfl rfl ?_
  refine go_cTI (As := []) (st := [aI x2]) (i := n1) mv_J0_length_8abf5 dX1_isWord_30 ml_X1_94 (hr_Kp (Nat.le_refl d)) rfl (by omega) rfl rfl (Nat.le_of_ble_eq_true rfl) h (fun x_2 V_1 h => ?_)
  refine go_icmp_ge (tgt := 63) dX1_isWord_33 (by decide) (fun c_7 => ?_) (fun c_7 => ?_)
  · have h := h.1 c_7
    refine go_iconst (v := 1) dX1_isWord_63 (by decide) ?_
    exact go_bret rfl dX1_isWord_64 (by decide) h
  · have h := h.2 c_7
    refine go_aload_n (q := 0) dX1_isWord_36 rfl rfl ?_
    refine go_getr fg_X1_15 dX1_isWord_37 (mX (n := 1) (by decide) rfl (by omega)) ?_
    refine go_aload_n (q := 0) dX1_isWord_40 rfl rfl ?_
    refine go_geti fg_X1_64 dX1_isWord_41 (mX (n := 1) (by decide) rfl (by omega)) ?_
    refine go_iload_n (q := 2) dX1_isWord_44 rfl rfl ?_
    refine go_iadd dX1_isWord_45 ?_
    obtain ⟨j_3, e_j_3, l_j_3, h⟩ := h
    refine go_iald (r := 17) (n := 96) (j := j_3) rfl (by decide) dX1_isWord_46 (mX (n := 1) (by decide) rfl (by omega)) e_j_3 l_j_3 ?_
    refine go_aload_n (q := 1) dX1_isWord_47 rfl rfl ?_
    refine go_iload_n (q := 2) dX1_isWord_48 rfl rfl ?_
    refine go_cTI (As := [aI x2]) (st := [aI (V_1 17 0 j_3)]) (i := n1) mv_J0_charAt_5068e dX1_isWord_49 ml_X1_96 (hr_Kp (Nat.le_refl d)) rfl (by omega) rfl rfl (Nat.le_of_ble_eq_true rfl) h (fun x_5 V_4 h => ?_)
    refine go_icmp_eq (tgt := 57) dX1_isWord_52 (by decide) (fun c_6 => ?_) (fun c_6 => ?_)
    · have h := h.1 c_6
      refine go_iinc (q := 2) (y := 1) (al1 := [(2, aI (x2 + 1)), (0, aR 6 0), (1, aR 61 n1)]) dX1_isWord_57 rfl (by decide) (by decide) rfl ?_
      refine go_goto (tgt := 28) dX1_isWord_60 (by decide) ?_
      refine go_sub (al1 := [(0, aR 6 0), (1, aR 61 n1), (2, aI (x2 + 1))]) [1, 2, 0] rfl ?_
      exact hk28 (x2 + 1)  V_4 h
    · have h := h.2 c_6
      refine go_iconst (v := 0) dX1_isWord_55 (by decide) ?_
      exact go_bret rfl dX1_isWord_56 (by decide) h
def wpX1_isWord_0 (C : CT) (I28 : Int32 → Mem → Prop) (n1 : Nat)  (V : Mem) (Q : Option AV → Mem → Prop) : Prop :=
  ((¬ (V 6 0 7) = 1 → Q (some (aI 0)) V) ∧ ((V 6 0 7) = 1 → (cI C mJ0_length_8abf5 [aR 61 n1] V (fun x_2 V_1 => ((((V 6 0 6) - (V 6 0 5)) = x_2 → I28 0 V_1) ∧ (¬ ((V 6 0 6) - (V 6 0 5)) = x_2 → Q (some (aI 0)) V_1))))))
set_option maxRecDepth 10000 in
theorem okX1_isWord_0 {d : Nat} {P : Option AV → Mem → Prop} {I28 : Int32 → Mem → Prop} (n1 : Nat) (h_n1 : n1 < 6)   (V : Mem) (hk28 : ∀ (x2 : Int32), ∀ (V : Mem), I28 x2 V → Gq (Kp (d + 1) mX1_isWord UX P) UX cX1_isWord 3 RX1 28 [(0, aR 6 0), (1, aR 61 n1), (2, aI x2)] [] V) (h : wpX1_isWord_0 (Cl UX d) I28 n1  V P) : Gq (Kp (d + 1) mX1_isWord UX P) UX cX1_isWord 3 RX1 0 [(0, aR 6 0), (1, aR 61 n1)] [] V := by
  unfold wpX1_isWord_0 at h
  refine go_aload_n (q := 0) dX1_isWord_0 rfl rfl ?_
  refine go_geti fg_X1_31 dX1_isWord_1 (mX (n := 1) (by decide) rfl (by omega)) ?_
  refine go_iconst (v := 1) dX1_isWord_4 (by decide) ?_
  refine go_icmp_ne (tgt := 24) dX1_isWord_5 (by decide) (fun c_4 => ?_) (fun c_4 => ?_)
  · have h := h.1 c_4
    refine go_iconst (v := 0) dX1_isWord_24 (by decide) ?_
    exact go_bret rfl dX1_isWord_25 (by decide) h
  · have h := h.2 c_4
    refine go_aload_n (q := 0) dX1_isWord_8 rfl rfl ?_
    refine go_geti fg_X1_28 dX1_isWord_9 (mX (n := 1) (by decide) rfl (by omega)) ?_
    refine go_aload_n (q := 0) dX1_isWord_12 rfl rfl ?_
    refine go_geti fg_X1_64 dX1_isWord_13 (mX (n := 1) (by decide) rfl (by omega)) ?_
    refine go_isub dX1_isWord_16 ?_
    refine go_aload_n (q := 1) dX1_isWord_17 rfl rfl ?_
    refine go_cTI (As := []) (st := [aI ((V 6 0 6) - (V 6 0 5))]) (i := n1) mv_J0_length_8abf5 dX1_isWord_18 ml_X1_94 (hr_Kp (Nat.le_refl d)) rfl (by omega) rfl rfl (Nat.le_of_ble_eq_true rfl) h (fun x_2 V_1 h => ?_)
    refine go_icmp_eq (tgt := 26) dX1_isWord_21 (by decide) (fun c_3 => ?_) (fun c_3 => ?_)
    · have h := h.1 c_3
      refine go_iconst (v := 0) dX1_isWord_26 (by decide) ?_
      refine go_istore_n (al1 := [(2, aI 0), (0, aR 6 0), (1, aR 61 n1)]) dX1_isWord_27 rfl (by decide) rfl ?_
      refine go_sub (al1 := [(0, aR 6 0), (1, aR 61 n1), (2, aI 0)]) [1, 2, 0] rfl ?_
      exact hk28 0  V_1 h
    · have h := h.2 c_3
      refine go_iconst (v := 0) dX1_isWord_24 (by decide) ?_
      exact go_bret rfl dX1_isWord_25 (by decide) h
theorem clX1_isWord {d : Nat} {P : Option AV → Mem → Prop} {I28 : Int32 → Mem → Prop} (n1 : Nat) (h_n1 : n1 < 6)  (V : Mem) (hk28 : ∀ (x2 : Int32), ∀ (V : Mem), I28 x2 V → Gq (Kp (d + 1) mX1_isWord UX P) UX cX1_isWord 3 RX1 28 [(0, aR 6 0), (1, aR 61 n1), (2, aI x2)] [] V) (h : wpX1_isWord_0 (Cl UX d) I28 n1  V P) : Cl UX (d + 1) mX1_isWord [aR 6 0, aR 61 n1] V P :=
  cl_of [(0, aR 6 0), (1, aR 61 n1)] (by decide) (fun _ => Nat.le_of_ble_eq_true rfl) (fun _ => rfl) (okX1_isWord_0 n1 h_n1  V hk28 h)
theorem dX1_readKey_0 : decode cX1_readKey 0 = .ok (.iconst 0, 1) := by decide +kernel
theorem dX1_readKey_1 : decode cX1_readKey 1 = .ok (.istore_n 1, 1) := by decide +kernel
theorem dX1_readKey_2 : decode cX1_readKey 2 = .ok (.iload_n 1, 1) := by decide +kernel
theorem dX1_readKey_3 : decode cX1_readKey 3 = .ok (.iconst 3, 1) := by decide +kernel
theorem dX1_readKey_4 : decode cX1_readKey 4 = .ok (.if_icmp .ge 31, 3) := by decide +kernel
theorem dX1_readKey_7 : decode cX1_readKey 7 = .ok (.aload_n 0, 1) := by decide +kernel
theorem dX1_readKey_8 : decode cX1_readKey 8 = .ok (.iload_n 1, 1) := by decide +kernel
theorem dX1_readKey_9 : decode cX1_readKey 9 = .ok (.invokestatic 45, 3) := by decide +kernel
theorem dX1_readKey_12 : decode cX1_readKey 12 = .ok (.invokevirtual 49, 3) := by decide +kernel
theorem dX1_readKey_15 : decode cX1_readKey 15 = .ok (.ifCond .eq 14, 3) := by decide +kernel
theorem dX1_readKey_18 : decode cX1_readKey 18 = .ok (.aload_n 0, 1) := by decide +kernel
theorem dX1_readKey_19 : decode cX1_readKey 19 = .ok (.iload_n 1, 1) := by decide +kernel
theorem dX1_readKey_20 : decode cX1_readKey 20 = .ok (.putfield 53, 3) := by decide +kernel
theorem dX1_readKey_23 : decode cX1_readKey 23 = .ok (.aload_n 0, 1) := by decide +kernel
theorem dX1_readKey_24 : decode cX1_readKey 24 = .ok (.invokevirtual 34, 3) := by decide +kernel
theorem dX1_readKey_27 : decode cX1_readKey 27 = .ok (.iconst 1, 1) := by decide +kernel
theorem dX1_readKey_28 : decode cX1_readKey 28 = .ok (.ireturn, 1) := by decide +kernel
theorem dX1_readKey_29 : decode cX1_readKey 29 = .ok (.iinc 1 1, 3) := by decide +kernel
theorem dX1_readKey_32 : decode cX1_readKey 32 = .ok (.goto (-30), 3) := by decide +kernel
theorem dX1_readKey_35 : decode cX1_readKey 35 = .ok (.iconst 0, 1) := by decide +kernel
theorem dX1_readKey_36 : decode cX1_readKey 36 = .ok (.ireturn, 1) := by decide +kernel
def wpX1_readKey_2 (C : CT) (I2 : Int32 → Mem → Prop)  (x1 : Int32) (V : Mem) (Q : Option AV → Mem → Prop) : Prop :=
  ((3 ≤ x1 → Q (some (aI 0)) V) ∧ (¬ 3 ≤ x1 → (cR C mX1_keyWord [aI x1] V 61 (fun k_2 V_1 => k_2 < 6 ∧ (cI C mX1_isWord [aR 6 0, aR 61 k_2] V_1 (fun x_4 V_3 => ((x_4 = 0 → I2 (x1 + 1) V_3) ∧ (¬ x_4 = 0 → (∀ V_5 : Mem, V_5 = mu V_3 6 0 3 x1 → (cV C mX1_goOn [aR 6 0] V_5 (fun V_6 => Q (some (aI 1)) V_6)))))))))))
set_option maxRecDepth 10000 in
theorem okX1_readKey_2 {d : Nat} {P : Option AV → Mem → Prop} {I2 : Int32 → Mem → Prop}   (x1 : Int32)  (V : Mem) (hk2 : ∀ (x1 : Int32), ∀ (V : Mem), I2 x1 V → Gq (Kp (d + 1) mX1_readKey UX P) UX cX1_readKey 2 RX1 2 [(0, aR 6 0), (1, aI x1)] [] V) (h : wpX1_readKey_2 (Cl UX d) I2  x1 V P) : Gq (Kp (d + 1) mX1_readKey UX P) UX cX1_readKey 2 RX1 2 [(0, aR 6 0), (1, aI x1)] [] V := by
  unfold wpX1_readKey_2 at h
  refine go_iload_n (q := 1) dX1_readKey_2 rfl rfl ?_
  refine go_iconst (v := 3) dX1_readKey_3 (by decide) ?_
  refine go_icmp_ge (tgt := 35) dX1_readKey_4 (by decide) (fun c_8 => ?_) (fun c_8 => ?_)
  · have h := h.1 c_8
    refine go_iconst (v := 0) dX1_readKey_35 (by decide) ?_
    exact go_bret rfl dX1_readKey_36 (by decide) h
  · have h := h.2 c_8
    refine go_aload_n (q := 0) dX1_readKey_7 rfl rfl ?_
    refine go_iload_n (q := 1) dX1_readKey_8 rfl rfl ?_
    refine go_cSR (As := [aI x1]) (st := [aR 6 0]) ms_X1_keyWord dX1_readKey_9 ml_X1_45 (hr_Kp (Nat.le_refl d)) rfl rfl (Nat.le_of_ble_eq_true rfl) h (fun k_2 V_1 h => ?_)
    obtain ⟨l_k_2, h⟩ := h
    refine go_cVI (As := [aR 61 k_2]) (st := []) (r := 6) (i := 0) mv_X1_isWord dX1_readKey_12 ml_X1_49 (hr_Kp (Nat.le_refl d)) rfl rfl (mX (n := 1) (by decide) rfl (by omega)) rfl rfl (Nat.le_of_ble_eq_true rfl) h (fun x_4 V_3 h => ?_)
    refine go_if_eq (tgt := 29) dX1_readKey_15 (by decide) (fun c_7 => ?_) (fun c_7 => ?_)
    · have h := h.1 c_7
      refine go_iinc (q := 1) (y := 1) (al1 := [(1, aI (x1 + 1)), (0, aR 6 0)]) dX1_readKey_29 rfl (by decide) (by decide) rfl ?_
      refine go_goto (tgt := 2) dX1_readKey_32 (by decide) ?_
      refine go_sub (al1 := [(0, aR 6 0), (1, aI (x1 + 1))]) [1, 0] rfl ?_
      exact hk2 (x1 + 1)  V_3 h
    · have h := h.2 c_7
      refine go_aload_n (q := 0) dX1_readKey_18 rfl rfl ?_
      refine go_iload_n (q := 1) dX1_readKey_19 rfl rfl ?_
      refine go_puti fp_X1_53 dX1_readKey_20 (mX (n := 1) (by decide) rfl (by omega)) ?_
      refine nmV (fun V_5 e_V_5 => ?_)
      have h := h V_5 e_V_5
      refine go_aload_n (q := 0) dX1_readKey_23 rfl rfl ?_
      refine go_cVV (As := []) (st := []) (r := 6) (i := 0) mv_X1_goOn dX1_readKey_24 ml_X1_34 (hr_Kp (Nat.le_refl d)) rfl rfl (mX (n := 1) (by decide) rfl (by omega)) rfl rfl (Nat.le_of_ble_eq_true rfl) h (fun V_6 h => ?_)
      refine go_iconst (v := 1) dX1_readKey_27 (by decide) ?_
      exact go_bret rfl dX1_readKey_28 (by decide) h
def wpX1_readKey_0 (C : CT) (I2 : Int32 → Mem → Prop)   (V : Mem) (Q : Option AV → Mem → Prop) : Prop :=
  I2 0 V
set_option maxRecDepth 10000 in
theorem okX1_readKey_0 {d : Nat} {P : Option AV → Mem → Prop} {I2 : Int32 → Mem → Prop}     (V : Mem) (hk2 : ∀ (x1 : Int32), ∀ (V : Mem), I2 x1 V → Gq (Kp (d + 1) mX1_readKey UX P) UX cX1_readKey 2 RX1 2 [(0, aR 6 0), (1, aI x1)] [] V) (h : wpX1_readKey_0 (Cl UX d) I2   V P) : Gq (Kp (d + 1) mX1_readKey UX P) UX cX1_readKey 2 RX1 0 [(0, aR 6 0)] [] V := by
  unfold wpX1_readKey_0 at h
  refine go_iconst (v := 0) dX1_readKey_0 (by decide) ?_
  refine go_istore_n (al1 := [(1, aI 0), (0, aR 6 0)]) dX1_readKey_1 rfl (by decide) rfl ?_
  refine go_sub (al1 := [(0, aR 6 0), (1, aI 0)]) [1, 0] rfl ?_
  exact hk2 0  V h
theorem clX1_readKey {d : Nat} {P : Option AV → Mem → Prop} {I2 : Int32 → Mem → Prop}    (V : Mem) (hk2 : ∀ (x1 : Int32), ∀ (V : Mem), I2 x1 V → Gq (Kp (d + 1) mX1_readKey UX P) UX cX1_readKey 2 RX1 2 [(0, aR 6 0), (1, aI x1)] [] V) (h : wpX1_readKey_0 (Cl UX d) I2   V P) : Cl UX (d + 1) mX1_readKey [aR 6 0] V P :=
  cl_of [(0, aR 6 0)] (by decide) (fun _ => Nat.le_of_ble_eq_true rfl) (fun _ => rfl) (okX1_readKey_0    V hk2 h)
