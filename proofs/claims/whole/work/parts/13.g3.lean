theorem dX6_sheet_0 : decode cX6_sheet 0 = .ok (.iload_n 1, 1) := by decide +kernel
theorem dX6_sheet_1 : decode cX6_sheet 1 = .ok (.invokestatic 223, 3) := by decide +kernel
theorem dX6_sheet_4 : decode cX6_sheet 4 = .ok (.ifCond .eq 12, 3) := by decide +kernel
theorem dX6_sheet_7 : decode cX6_sheet 7 = .ok (.iload_n 2, 1) := by decide +kernel
theorem dX6_sheet_8 : decode cX6_sheet 8 = .ok (.iconst (-1), 1) := by decide +kernel
theorem dX6_sheet_9 : decode cX6_sheet 9 = .ok (.iconst 1, 1) := by decide +kernel
theorem dX6_sheet_10 : decode cX6_sheet 10 = .ok (.invokestatic 79, 3) := by decide +kernel
theorem dX6_sheet_13 : decode cX6_sheet 13 = .ok (.ifCond .ne 6, 3) := by decide +kernel
theorem dX6_sheet_16 : decode cX6_sheet 16 = .ok (.ldc 83, 2) := by decide +kernel
theorem dX6_sheet_18 : decode cX6_sheet 18 = .ok (.ireturn, 1) := by decide +kernel
theorem dX6_sheet_19 : decode cX6_sheet 19 = .ok (.iload_n 2, 1) := by decide +kernel
theorem dX6_sheet_20 : decode cX6_sheet 20 = .ok (.iconst (-1), 1) := by decide +kernel
theorem dX6_sheet_21 : decode cX6_sheet 21 = .ok (.if_icmp .ne 14, 3) := by decide +kernel
theorem dX6_sheet_24 : decode cX6_sheet 24 = .ok (.aload_n 0, 1) := by decide +kernel
theorem dX6_sheet_25 : decode cX6_sheet 25 = .ok (.getfield 54, 3) := by decide +kernel
theorem dX6_sheet_28 : decode cX6_sheet 28 = .ok (.iload_n 1, 1) := by decide +kernel
theorem dX6_sheet_29 : decode cX6_sheet 29 = .ok (.aaload, 1) := by decide +kernel
theorem dX6_sheet_30 : decode cX6_sheet 30 = .ok (.invokevirtual 267, 3) := by decide +kernel
theorem dX6_sheet_33 : decode cX6_sheet 33 = .ok (.iconst 0, 1) := by decide +kernel
theorem dX6_sheet_34 : decode cX6_sheet 34 = .ok (.ireturn, 1) := by decide +kernel
theorem dX6_sheet_35 : decode cX6_sheet 35 = .ok (.iload_n 3, 1) := by decide +kernel
theorem dX6_sheet_36 : decode cX6_sheet 36 = .ok (.bipush 24, 2) := by decide +kernel
theorem dX6_sheet_38 : decode cX6_sheet 38 = .ok (.if_icmp .le 6, 3) := by decide +kernel
theorem dX6_sheet_41 : decode cX6_sheet 41 = .ok (.ldc 83, 2) := by decide +kernel
theorem dX6_sheet_43 : decode cX6_sheet 43 = .ok (.ireturn, 1) := by decide +kernel
theorem dX6_sheet_44 : decode cX6_sheet 44 = .ok (.iload_n 3, 1) := by decide +kernel
theorem dX6_sheet_45 : decode cX6_sheet 45 = .ok (.ifCond .ge 7, 3) := by decide +kernel
theorem dX6_sheet_48 : decode cX6_sheet 48 = .ok (.ldc_w 270, 3) := by decide +kernel
theorem dX6_sheet_51 : decode cX6_sheet 51 = .ok (.ireturn, 1) := by decide +kernel
theorem dX6_sheet_52 : decode cX6_sheet 52 = .ok (.aload_n 0, 1) := by decide +kernel
theorem dX6_sheet_53 : decode cX6_sheet 53 = .ok (.getfield 54, 3) := by decide +kernel
theorem dX6_sheet_56 : decode cX6_sheet 56 = .ok (.iload_n 1, 1) := by decide +kernel
theorem dX6_sheet_57 : decode cX6_sheet 57 = .ok (.aaload, 1) := by decide +kernel
theorem dX6_sheet_58 : decode cX6_sheet 58 = .ok (.iload_n 2, 1) := by decide +kernel
theorem dX6_sheet_59 : decode cX6_sheet 59 = .ok (.iload_n 3, 1) := by decide +kernel
theorem dX6_sheet_60 : decode cX6_sheet 60 = .ok (.invokevirtual 271, 3) := by decide +kernel
theorem dX6_sheet_63 : decode cX6_sheet 63 = .ok (.iload_n 3, 1) := by decide +kernel
theorem dX6_sheet_64 : decode cX6_sheet 64 = .ok (.ireturn, 1) := by decide +kernel
def wpX6_sheet_0 (C : CT)   (x1 : Int32) (x2 : Int32) (x3 : Int32) (V : Mem) (Q : Option AV → Mem → Prop) : Prop :=
  (cI C mX6_isSheet [aI x1] V (fun x_2 V_1 => ((x_2 = 0 → Q (some (aI (-1000000001))) V_1) ∧ (¬ x_2 = 0 → (cI C mX6_isWithin [aI x2, aI (-1), aI 1] V_1 (fun x_4 V_3 => ((¬ x_4 = 0 → ((¬ x2 = (-1) → ((x3 ≤ 24 → ((0 ≤ x3 → (∃ j_5 : Nat, x1 = nI j_5 ∧ j_5 < 4 ∧ (cV C mX3_begin [aR 4 j_5, aI x2, aI x3] V_3 (fun V_6 => Q (some (aI x3)) V_6)))) ∧ (¬ 0 ≤ x3 → Q (some (aI (-1000000014))) V_3))) ∧ (¬ x3 ≤ 24 → Q (some (aI (-1000000001))) V_3))) ∧ (x2 = (-1) → (∃ j_9 : Nat, x1 = nI j_9 ∧ j_9 < 4 ∧ (cV C mX3_lose [aR 4 j_9] V_3 (fun V_10 => Q (some (aI 0)) V_10)))))) ∧ (x_4 = 0 → Q (some (aI (-1000000001))) V_3))))))))
set_option maxRecDepth 10000 in
theorem okX6_sheet_0 {d : Nat} {P : Option AV → Mem → Prop}    (x1 : Int32) (x2 : Int32) (x3 : Int32)  (V : Mem)  (h : wpX6_sheet_0 (Cl UX d)   x1 x2 x3 V P) : Gq (Kp (d + 1) mX6_sheet UX P) UX cX6_sheet 4 RX6 0 [(0, aR 0 0), (1, aI x1), (2, aI x2), (3, aI x3)] [] V := by
  unfold wpX6_sheet_0 at h
  refine go_iload_n (q := 1) dX6_sheet_0 rfl rfl ?_
  refine go_cSI (As := [aI x1]) (st := []) ms_X6_isSheet dX6_sheet_1 ml_X6_223 (hr_Kp (Nat.le_refl d)) rfl rfl (Nat.le_of_ble_eq_true rfl) h (fun x_2 V_1 h => ?_)
  refine go_if_eq (tgt := 16) dX6_sheet_4 (by decide) (fun c_13 => ?_) (fun c_13 => ?_)
  · have h := h.1 c_13
    refine go_ldc dX6_sheet_16 ct_X6_83 ?_
    exact go_iret rfl dX6_sheet_18 h
  · have h := h.2 c_13
    refine go_iload_n (q := 2) dX6_sheet_7 rfl rfl ?_
    refine go_iconst (v := (-1)) dX6_sheet_8 (by decide) ?_
    refine go_iconst (v := 1) dX6_sheet_9 (by decide) ?_
    refine go_cSI (As := [aI x2, aI (-1), aI 1]) (st := []) ms_X6_isWithin dX6_sheet_10 ml_X6_79 (hr_Kp (Nat.le_refl d)) rfl rfl (Nat.le_of_ble_eq_true rfl) h (fun x_4 V_3 h => ?_)
    refine go_if_ne (tgt := 19) dX6_sheet_13 (by decide) (fun c_12 => ?_) (fun c_12 => ?_)
    · have h := h.1 c_12
      refine go_iload_n (q := 2) dX6_sheet_19 rfl rfl ?_
      refine go_iconst (v := (-1)) dX6_sheet_20 (by decide) ?_
      refine go_icmp_ne (tgt := 35) dX6_sheet_21 (by decide) (fun c_11 => ?_) (fun c_11 => ?_)
      · have h := h.1 c_11
        refine go_iload_n (q := 3) dX6_sheet_35 rfl rfl ?_
        refine go_bipush (v := 24) dX6_sheet_36 (by decide) ?_
        refine go_icmp_le (tgt := 44) dX6_sheet_38 (by decide) (fun c_8 => ?_) (fun c_8 => ?_)
        · have h := h.1 c_8
          refine go_iload_n (q := 3) dX6_sheet_44 rfl rfl ?_
          refine go_if_ge (tgt := 52) dX6_sheet_45 (by decide) (fun c_7 => ?_) (fun c_7 => ?_)
          · have h := h.1 c_7
            refine go_aload_n (q := 0) dX6_sheet_52 rfl rfl ?_
            refine go_getr fg_X6_54 dX6_sheet_53 (mX (n := 1) (by decide) rfl (by omega)) ?_
            refine go_iload_n (q := 1) dX6_sheet_56 rfl rfl ?_
            obtain ⟨j_5, e_j_5, l_j_5, h⟩ := h
            refine go_aald (r := 19) (n := 4) (j := j_5) rfl rfl (by decide) dX6_sheet_57 (mX (n := 1) (by decide) rfl (by omega)) e_j_5 l_j_5 ?_
            refine go_iload_n (q := 2) dX6_sheet_58 rfl rfl ?_
            refine go_iload_n (q := 3) dX6_sheet_59 rfl rfl ?_
            refine go_cVV (As := [aI x2, aI x3]) (st := []) (r := 4) (i := j_5) mv_X3_begin dX6_sheet_60 ml_X6_271 (hr_Kp (Nat.le_refl d)) rfl rfl (mX (n := 9) (by decide) rfl (by omega)) rfl rfl (Nat.le_of_ble_eq_true rfl) h (fun V_6 h => ?_)
            refine go_iload_n (q := 3) dX6_sheet_63 rfl rfl ?_
            exact go_iret rfl dX6_sheet_64 h
          · have h := h.2 c_7
            refine go_ldcw dX6_sheet_48 ct_X6_270 ?_
            exact go_iret rfl dX6_sheet_51 h
        · have h := h.2 c_8
          refine go_ldc dX6_sheet_41 ct_X6_83 ?_
          exact go_iret rfl dX6_sheet_43 h
      · have h := h.2 c_11
        refine go_aload_n (q := 0) dX6_sheet_24 rfl rfl ?_
        refine go_getr fg_X6_54 dX6_sheet_25 (mX (n := 1) (by decide) rfl (by omega)) ?_
        refine go_iload_n (q := 1) dX6_sheet_28 rfl rfl ?_
        obtain ⟨j_9, e_j_9, l_j_9, h⟩ := h
        refine go_aald (r := 19) (n := 4) (j := j_9) rfl rfl (by decide) dX6_sheet_29 (mX (n := 1) (by decide) rfl (by omega)) e_j_9 l_j_9 ?_
        refine go_cVV (As := []) (st := []) (r := 4) (i := j_9) mv_X3_lose dX6_sheet_30 ml_X6_267 (hr_Kp (Nat.le_refl d)) rfl rfl (mX (n := 9) (by decide) rfl (by omega)) rfl rfl (Nat.le_of_ble_eq_true rfl) h (fun V_10 h => ?_)
        refine go_iconst (v := 0) dX6_sheet_33 (by decide) ?_
        exact go_iret rfl dX6_sheet_34 h
    · have h := h.2 c_12
      refine go_ldc dX6_sheet_16 ct_X6_83 ?_
      exact go_iret rfl dX6_sheet_18 h
theorem clX6_sheet {d : Nat} {P : Option AV → Mem → Prop}    (x1 : Int32) (x2 : Int32) (x3 : Int32) (V : Mem)  (h : wpX6_sheet_0 (Cl UX d)   x1 x2 x3 V P) : Cl UX (d + 1) mX6_sheet [aR 0 0, aI x1, aI x2, aI x3] V P :=
  cl_of [(0, aR 0 0), (1, aI x1), (2, aI x2), (3, aI x3)] (by decide) (fun _ => Nat.le_of_ble_eq_true rfl) (fun _ => rfl) (okX6_sheet_0   x1 x2 x3 V  h)
theorem dX6_mark_0 : decode cX6_mark 0 = .ok (.iload_n 1, 1) := by decide +kernel
theorem dX6_mark_1 : decode cX6_mark 1 = .ok (.invokestatic 223, 3) := by decide +kernel
theorem dX6_mark_4 : decode cX6_mark 4 = .ok (.ifCond .ne 6, 3) := by decide +kernel
theorem dX6_mark_7 : decode cX6_mark 7 = .ok (.ldc 83, 2) := by decide +kernel
theorem dX6_mark_9 : decode cX6_mark 9 = .ok (.ireturn, 1) := by decide +kernel
theorem dX6_mark_10 : decode cX6_mark 10 = .ok (.aload_n 0, 1) := by decide +kernel
theorem dX6_mark_11 : decode cX6_mark 11 = .ok (.getfield 54, 3) := by decide +kernel
theorem dX6_mark_14 : decode cX6_mark 14 = .ok (.iload_n 1, 1) := by decide +kernel
theorem dX6_mark_15 : decode cX6_mark 15 = .ok (.aaload, 1) := by decide +kernel
theorem dX6_mark_16 : decode cX6_mark 16 = .ok (.astore 4, 2) := by decide +kernel
theorem dX6_mark_18 : decode cX6_mark 18 = .ok (.aload 4, 2) := by decide +kernel
theorem dX6_mark_20 : decode cX6_mark 20 = .ok (.invokevirtual 226, 3) := by decide +kernel
theorem dX6_mark_23 : decode cX6_mark 23 = .ok (.ifCond .eq 6, 3) := by decide +kernel
theorem dX6_mark_26 : decode cX6_mark 26 = .ok (.ldc 230, 2) := by decide +kernel
theorem dX6_mark_28 : decode cX6_mark 28 = .ok (.ireturn, 1) := by decide +kernel
theorem dX6_mark_29 : decode cX6_mark 29 = .ok (.aload 4, 2) := by decide +kernel
theorem dX6_mark_31 : decode cX6_mark 31 = .ok (.iload_n 2, 1) := by decide +kernel
theorem dX6_mark_32 : decode cX6_mark 32 = .ok (.invokevirtual 274, 3) := by decide +kernel
theorem dX6_mark_35 : decode cX6_mark 35 = .ok (.ifCond .ne 7, 3) := by decide +kernel
theorem dX6_mark_38 : decode cX6_mark 38 = .ok (.ldc_w 277, 3) := by decide +kernel
theorem dX6_mark_41 : decode cX6_mark 41 = .ok (.ireturn, 1) := by decide +kernel
theorem dX6_mark_42 : decode cX6_mark 42 = .ok (.aload 4, 2) := by decide +kernel
theorem dX6_mark_44 : decode cX6_mark 44 = .ok (.getfield 278, 3) := by decide +kernel
theorem dX6_mark_47 : decode cX6_mark 47 = .ok (.ifCond .ne 23, 3) := by decide +kernel
theorem dX6_mark_50 : decode cX6_mark 50 = .ok (.iload_n 3, 1) := by decide +kernel
theorem dX6_mark_51 : decode cX6_mark 51 = .ok (.ldc 218, 2) := by decide +kernel
theorem dX6_mark_53 : decode cX6_mark 53 = .ok (.if_icmp .ne 8, 3) := by decide +kernel
theorem dX6_mark_56 : decode cX6_mark 56 = .ok (.ldc 140, 2) := by decide +kernel
theorem dX6_mark_58 : decode cX6_mark 58 = .ok (.goto 11, 3) := by decide +kernel
theorem dX6_mark_61 : decode cX6_mark 61 = .ok (.aload 4, 2) := by decide +kernel
theorem dX6_mark_63 : decode cX6_mark 63 = .ok (.iload_n 2, 1) := by decide +kernel
theorem dX6_mark_64 : decode cX6_mark 64 = .ok (.iload_n 3, 1) := by decide +kernel
theorem dX6_mark_65 : decode cX6_mark 65 = .ok (.i2s, 1) := by decide +kernel
theorem dX6_mark_66 : decode cX6_mark 66 = .ok (.invokevirtual 281, 3) := by decide +kernel
theorem dX6_mark_69 : decode cX6_mark 69 = .ok (.ireturn, 1) := by decide +kernel
theorem dX6_mark_70 : decode cX6_mark 70 = .ok (.iload_n 3, 1) := by decide +kernel
theorem dX6_mark_71 : decode cX6_mark 71 = .ok (.ldc 218, 2) := by decide +kernel
theorem dX6_mark_73 : decode cX6_mark 73 = .ok (.if_icmp .eq 15, 3) := by decide +kernel
theorem dX6_mark_76 : decode cX6_mark 76 = .ok (.iload_n 3, 1) := by decide +kernel
theorem dX6_mark_77 : decode cX6_mark 77 = .ok (.ldc_w 284, 3) := by decide +kernel
theorem dX6_mark_80 : decode cX6_mark 80 = .ok (.ldc 211, 2) := by decide +kernel
theorem dX6_mark_82 : decode cX6_mark 82 = .ok (.invokestatic 79, 3) := by decide +kernel
theorem dX6_mark_85 : decode cX6_mark 85 = .ok (.ifCond .eq 13, 3) := by decide +kernel
theorem dX6_mark_88 : decode cX6_mark 88 = .ok (.aload 4, 2) := by decide +kernel
theorem dX6_mark_90 : decode cX6_mark 90 = .ok (.iload_n 2, 1) := by decide +kernel
theorem dX6_mark_91 : decode cX6_mark 91 = .ok (.iload_n 3, 1) := by decide +kernel
theorem dX6_mark_92 : decode cX6_mark 92 = .ok (.invokevirtual 281, 3) := by decide +kernel
theorem dX6_mark_95 : decode cX6_mark 95 = .ok (.goto 5, 3) := by decide +kernel
theorem dX6_mark_98 : decode cX6_mark 98 = .ok (.ldc 83, 2) := by decide +kernel
theorem dX6_mark_100 : decode cX6_mark 100 = .ok (.ireturn, 1) := by decide +kernel
def wpX6_mark_0 (C : CT)   (x1 : Int32) (x2 : Int32) (x3 : Int32) (V : Mem) (Q : Option AV → Mem → Prop) : Prop :=
  (cI C mX6_isSheet [aI x1] V (fun x_2 V_1 => ((¬ x_2 = 0 → (∃ j_3 : Nat, x1 = nI j_3 ∧ j_3 < 4 ∧ (cI C mX3_isMissing [aR 4 j_3] V_1 (fun x_5 V_4 => ((x_5 = 0 → (cI C mX3_hasPlace [aR 4 j_3, aI x2] V_4 (fun x_7 V_6 => ((¬ x_7 = 0 → ((¬ (V_6 4 j_3 0) = 0 → ((x3 = (-1000000005) → (cI C mX3_write [aR 4 j_3, aI x2, aI x3] V_6 (fun x_9 V_8 => Q (some (aI x_9)) V_8))) ∧ (¬ x3 = (-1000000005) → (cI C mX6_isWithin [aI x3, aI (-99999), aI 99999] V_6 (fun x_11 V_10 => ((x_11 = 0 → Q (some (aI (-1000000001))) V_10) ∧ (¬ x_11 = 0 → (cI C mX3_write [aR 4 j_3, aI x2, aI x3] V_10 (fun x_13 V_12 => Q (some (aI x_13)) V_12))))))))) ∧ ((V_6 4 j_3 0) = 0 → ((¬ x3 = (-1000000005) → (cI C mX3_write [aR 4 j_3, aI x2, aI ((x3 : Int32).toInt16.toInt32)] V_6 (fun x_17 V_16 => Q (some (aI x_17)) V_16))) ∧ (x3 = (-1000000005) → Q (some (aI (-1000000012))) V_6))))) ∧ (x_7 = 0 → Q (some (aI (-1000000013))) V_6))))) ∧ (¬ x_5 = 0 → Q (some (aI (-1000000011))) V_4)))))) ∧ (x_2 = 0 → Q (some (aI (-1000000001))) V_1))))
set_option maxRecDepth 10000 in
theorem okX6_mark_0 {d : Nat} {P : Option AV → Mem → Prop}    (x1 : Int32) (x2 : Int32) (x3 : Int32)  (V : Mem)  (h : wpX6_mark_0 (Cl UX d)   x1 x2 x3 V P) : Gq (Kp (d + 1) mX6_mark UX P) UX cX6_mark 5 RX6 0 [(0, aR 0 0), (1, aI x1), (2, aI x2), (3, aI x3)] [] V := by
  unfold wpX6_mark_0 at h
  refine go_iload_n (q := 1) dX6_mark_0 rfl rfl ?_
  refine go_cSI (As := [aI x1]) (st := []) ms_X6_isSheet dX6_mark_1 ml_X6_223 (hr_Kp (Nat.le_refl d)) rfl rfl (Nat.le_of_ble_eq_true rfl) h (fun x_2 V_1 h => ?_)
  refine go_if_ne (tgt := 10) dX6_mark_4 (by decide) (fun c_22 => ?_) (fun c_22 => ?_)
  · have h := h.1 c_22
    refine go_aload_n (q := 0) dX6_mark_10 rfl rfl ?_
    refine go_getr fg_X6_54 dX6_mark_11 (mX (n := 1) (by decide) rfl (by omega)) ?_
    refine go_iload_n (q := 1) dX6_mark_14 rfl rfl ?_
    obtain ⟨j_3, e_j_3, l_j_3, h⟩ := h
    refine go_aald (r := 19) (n := 4) (j := j_3) rfl rfl (by decide) dX6_mark_15 (mX (n := 1) (by decide) rfl (by omega)) e_j_3 l_j_3 ?_
    refine go_astore (al1 := [(4, aR 4 j_3), (0, aR 0 0), (1, aI x1), (2, aI x2), (3, aI x3)]) dX6_mark_16 (by decide) rfl ?_
    refine go_aload (q := 0) dX6_mark_18 rfl ?_
    refine go_cVI (As := []) (st := []) (r := 4) (i := j_3) mv_X3_isMissing dX6_mark_20 ml_X6_226 (hr_Kp (Nat.le_refl d)) rfl rfl (mX (n := 9) (by decide) rfl (by omega)) rfl rfl (Nat.le_of_ble_eq_true rfl) h (fun x_5 V_4 h => ?_)
    refine go_if_eq (tgt := 29) dX6_mark_23 (by decide) (fun c_21 => ?_) (fun c_21 => ?_)
    · have h := h.1 c_21
      refine go_aload (q := 0) dX6_mark_29 rfl ?_
      refine go_iload_n (q := 3) dX6_mark_31 rfl rfl ?_
      refine go_cVI (As := [aI x2]) (st := []) (r := 4) (i := j_3) mv_X3_hasPlace dX6_mark_32 ml_X6_274 (hr_Kp (Nat.le_refl d)) rfl rfl (mX (n := 9) (by decide) rfl (by omega)) rfl rfl (Nat.le_of_ble_eq_true rfl) h (fun x_7 V_6 h => ?_)
      refine go_if_ne (tgt := 42) dX6_mark_35 (by decide) (fun c_20 => ?_) (fun c_20 => ?_)
      · have h := h.1 c_20
        refine go_aload (q := 0) dX6_mark_42 rfl ?_
        refine go_geti fg_X6_278 dX6_mark_44 (mX (n := 9) (by decide) rfl (by omega)) ?_
        refine go_if_ne (tgt := 70) dX6_mark_47 (by decide) (fun c_19 => ?_) (fun c_19 => ?_)
        · have h := h.1 c_19
          refine go_iload_n (q := 4) dX6_mark_70 rfl rfl ?_
          refine go_ldc dX6_mark_71 ct_X6_218 ?_
          refine go_icmp_eq (tgt := 88) dX6_mark_73 (by decide) (fun c_15 => ?_) (fun c_15 => ?_)
          · have h := h.1 c_15
            refine go_aload (q := 0) dX6_mark_88 rfl ?_
            refine go_iload_n (q := 3) dX6_mark_90 rfl rfl ?_
            refine go_iload_n (q := 4) dX6_mark_91 rfl rfl ?_
            refine go_cVI (As := [aI x2, aI x3]) (st := []) (r := 4) (i := j_3) mv_X3_write dX6_mark_92 ml_X6_281 (hr_Kp (Nat.le_refl d)) rfl rfl (mX (n := 9) (by decide) rfl (by omega)) rfl rfl (Nat.le_of_ble_eq_true rfl) h (fun x_9 V_8 h => ?_)
            refine go_goto (tgt := 100) dX6_mark_95 (by decide) ?_
            exact go_iret rfl dX6_mark_100 h
          · have h := h.2 c_15
            refine go_iload_n (q := 4) dX6_mark_76 rfl rfl ?_
            refine go_ldcw dX6_mark_77 ct_X6_284 ?_
            refine go_ldc dX6_mark_80 ct_X6_211 ?_
            refine go_cSI (As := [aI x3, aI (-99999), aI 99999]) (st := []) ms_X6_isWithin dX6_mark_82 ml_X6_79 (hr_Kp (Nat.le_refl d)) rfl rfl (Nat.le_of_ble_eq_true rfl) h (fun x_11 V_10 h => ?_)
            refine go_if_eq (tgt := 98) dX6_mark_85 (by decide) (fun c_14 => ?_) (fun c_14 => ?_)
            · have h := h.1 c_14
              refine go_ldc dX6_mark_98 ct_X6_83 ?_
              exact go_iret rfl dX6_mark_100 h
            · have h := h.2 c_14
              refine go_aload (q := 0) dX6_mark_88 rfl ?_
              refine go_iload_n (q := 3) dX6_mark_90 rfl rfl ?_
              refine go_iload_n (q := 4) dX6_mark_91 rfl rfl ?_
              refine go_cVI (As := [aI x2, aI x3]) (st := []) (r := 4) (i := j_3) mv_X3_write dX6_mark_92 ml_X6_281 (hr_Kp (Nat.le_refl d)) rfl rfl (mX (n := 9) (by decide) rfl (by omega)) rfl rfl (Nat.le_of_ble_eq_true rfl) h (fun x_13 V_12 h => ?_)
              refine go_goto (tgt := 100) dX6_mark_95 (by decide) ?_
              exact go_iret rfl dX6_mark_100 h
        · have h := h.2 c_19
          refine go_iload_n (q := 4) dX6_mark_50 rfl rfl ?_
          refine go_ldc dX6_mark_51 ct_X6_218 ?_
          refine go_icmp_ne (tgt := 61) dX6_mark_53 (by decide) (fun c_18 => ?_) (fun c_18 => ?_)
          · have h := h.1 c_18
            refine go_aload (q := 0) dX6_mark_61 rfl ?_
            refine go_iload_n (q := 3) dX6_mark_63 rfl rfl ?_
            refine go_iload_n (q := 4) dX6_mark_64 rfl rfl ?_
            refine go_i2s dX6_mark_65 ?_
            refine go_cVI (As := [aI x2, aI ((x3 : Int32).toInt16.toInt32)]) (st := []) (r := 4) (i := j_3) mv_X3_write dX6_mark_66 ml_X6_281 (hr_Kp (Nat.le_refl d)) rfl rfl (mX (n := 9) (by decide) rfl (by omega)) rfl rfl (Nat.le_of_ble_eq_true rfl) h (fun x_17 V_16 h => ?_)
            exact go_iret rfl dX6_mark_69 h
          · have h := h.2 c_18
            refine go_ldc dX6_mark_56 ct_X6_140 ?_
            refine go_goto (tgt := 69) dX6_mark_58 (by decide) ?_
            exact go_iret rfl dX6_mark_69 h
      · have h := h.2 c_20
        refine go_ldcw dX6_mark_38 ct_X6_277 ?_
        exact go_iret rfl dX6_mark_41 h
    · have h := h.2 c_21
      refine go_ldc dX6_mark_26 ct_X6_230 ?_
      exact go_iret rfl dX6_mark_28 h
  · have h := h.2 c_22
    refine go_ldc dX6_mark_7 ct_X6_83 ?_
    exact go_iret rfl dX6_mark_9 h
theorem clX6_mark {d : Nat} {P : Option AV → Mem → Prop}    (x1 : Int32) (x2 : Int32) (x3 : Int32) (V : Mem)  (h : wpX6_mark_0 (Cl UX d)   x1 x2 x3 V P) : Cl UX (d + 1) mX6_mark [aR 0 0, aI x1, aI x2, aI x3] V P :=
  cl_of [(0, aR 0 0), (1, aI x1), (2, aI x2), (3, aI x3)] (by decide) (fun _ => Nat.le_of_ble_eq_true rfl) (fun _ => rfl) (okX6_mark_0   x1 x2 x3 V  h)
theorem dX6_pour_0 : decode cX6_pour 0 = .ok (.iload_n 1, 1) := by decide +kernel
theorem dX6_pour_1 : decode cX6_pour 1 = .ok (.invokestatic 223, 3) := by decide +kernel
theorem dX6_pour_4 : decode cX6_pour 4 = .ok (.ifCond .ne 6, 3) := by decide +kernel
theorem dX6_pour_7 : decode cX6_pour 7 = .ok (.ldc 83, 2) := by decide +kernel
theorem dX6_pour_9 : decode cX6_pour 9 = .ok (.ireturn, 1) := by decide +kernel
theorem dX6_pour_10 : decode cX6_pour 10 = .ok (.aload_n 0, 1) := by decide +kernel
theorem dX6_pour_11 : decode cX6_pour 11 = .ok (.getfield 54, 3) := by decide +kernel
theorem dX6_pour_14 : decode cX6_pour 14 = .ok (.iload_n 1, 1) := by decide +kernel
theorem dX6_pour_15 : decode cX6_pour 15 = .ok (.aaload, 1) := by decide +kernel
theorem dX6_pour_16 : decode cX6_pour 16 = .ok (.astore_n 2, 1) := by decide +kernel
theorem dX6_pour_17 : decode cX6_pour 17 = .ok (.aload_n 2, 1) := by decide +kernel
theorem dX6_pour_18 : decode cX6_pour 18 = .ok (.invokevirtual 226, 3) := by decide +kernel
theorem dX6_pour_21 : decode cX6_pour 21 = .ok (.ifCond .eq 6, 3) := by decide +kernel
theorem dX6_pour_24 : decode cX6_pour 24 = .ok (.ldc 230, 2) := by decide +kernel
theorem dX6_pour_26 : decode cX6_pour 26 = .ok (.ireturn, 1) := by decide +kernel
theorem dX6_pour_27 : decode cX6_pour 27 = .ok (.iconst 0, 1) := by decide +kernel
theorem dX6_pour_28 : decode cX6_pour 28 = .ok (.istore_n 3, 1) := by decide +kernel
theorem dX6_pour_29 : decode cX6_pour 29 = .ok (.iconst 0, 1) := by decide +kernel
theorem dX6_pour_30 : decode cX6_pour 30 = .ok (.istore 4, 2) := by decide +kernel
theorem dX6_pour_32 : decode cX6_pour 32 = .ok (.iload 4, 2) := by decide +kernel
theorem dX6_pour_34 : decode cX6_pour 34 = .ok (.aload_n 2, 1) := by decide +kernel
theorem dX6_pour_35 : decode cX6_pour 35 = .ok (.getfield 285, 3) := by decide +kernel
theorem dX6_pour_38 : decode cX6_pour 38 = .ok (.if_icmp .ge 65, 3) := by decide +kernel
theorem dX6_pour_41 : decode cX6_pour 41 = .ok (.iload 4, 2) := by decide +kernel
theorem dX6_pour_43 : decode cX6_pour 43 = .ok (.bipush 24, 2) := by decide +kernel
theorem dX6_pour_45 : decode cX6_pour 45 = .ok (.if_icmp .ge 58, 3) := by decide +kernel
theorem dX6_pour_48 : decode cX6_pour 48 = .ok (.aload_n 2, 1) := by decide +kernel
theorem dX6_pour_49 : decode cX6_pour 49 = .ok (.iload 4, 2) := by decide +kernel
theorem dX6_pour_51 : decode cX6_pour 51 = .ok (.invokevirtual 288, 3) := by decide +kernel
theorem dX6_pour_54 : decode cX6_pour 54 = .ok (.ifCond .eq 43, 3) := by decide +kernel
theorem dX6_pour_57 : decode cX6_pour 57 = .ok (.iconst 0, 1) := by decide +kernel
theorem dX6_pour_58 : decode cX6_pour 58 = .ok (.bipush 9, 2) := by decide +kernel
theorem dX6_pour_60 : decode cX6_pour 60 = .ok (.aload_n 2, 1) := by decide +kernel
theorem dX6_pour_61 : decode cX6_pour 61 = .ok (.getfield 291, 3) := by decide +kernel
theorem dX6_pour_64 : decode cX6_pour 64 = .ok (.iload 4, 2) := by decide +kernel
theorem dX6_pour_66 : decode cX6_pour 66 = .ok (.iaload, 1) := by decide +kernel
theorem dX6_pour_67 : decode cX6_pour 67 = .ok (.invokestatic 154, 3) := by decide +kernel
theorem dX6_pour_70 : decode cX6_pour 70 = .ok (.invokestatic 215, 3) := by decide +kernel
theorem dX6_pour_73 : decode cX6_pour 73 = .ok (.istore 5, 2) := by decide +kernel
theorem dX6_pour_75 : decode cX6_pour 75 = .ok (.aload_n 0, 1) := by decide +kernel
theorem dX6_pour_76 : decode cX6_pour 76 = .ok (.getfield 21, 3) := by decide +kernel
theorem dX6_pour_79 : decode cX6_pour 79 = .ok (.getfield 178, 3) := by decide +kernel
theorem dX6_pour_82 : decode cX6_pour 82 = .ok (.iload 4, 2) := by decide +kernel
theorem dX6_pour_84 : decode cX6_pour 84 = .ok (.iload 5, 2) := by decide +kernel
theorem dX6_pour_86 : decode cX6_pour 86 = .ok (.invokestatic 174, 3) := by decide +kernel
theorem dX6_pour_89 : decode cX6_pour 89 = .ok (.iload 5, 2) := by decide +kernel
theorem dX6_pour_91 : decode cX6_pour 91 = .ok (.if_icmp .eq 6, 3) := by decide +kernel
theorem dX6_pour_94 : decode cX6_pour 94 = .ok (.iinc 3 1, 3) := by decide +kernel
theorem dX6_pour_97 : decode cX6_pour 97 = .ok (.iinc 4 1, 3) := by decide +kernel
theorem dX6_pour_100 : decode cX6_pour 100 = .ok (.goto (-68), 3) := by decide +kernel
theorem dX6_pour_103 : decode cX6_pour 103 = .ok (.iload_n 3, 1) := by decide +kernel
theorem dX6_pour_104 : decode cX6_pour 104 = .ok (.ireturn, 1) := by decide +kernel
def wpX6_pour_32 (C : CT) (I32 : Int32 → Nat → Int32 → Int32 → Mem → Prop)  (x1 : Int32) (m2 : Nat) (x3 : Int32) (x4 : Int32) (V : Mem) (Q : Option AV → Mem → Prop) : Prop :=
  (((V 4 m2 1) ≤ x4 → Q (some (aI x3)) V) ∧ (¬ (V 4 m2 1) ≤ x4 → ((24 ≤ x4 → Q (some (aI x3)) V) ∧ (¬ 24 ≤ x4 → (cI C mX3_isNumber [aR 4 m2, aI x4] V (fun x_2 V_1 => ((x_2 = 0 → I32 x1 m2 x3 (x4 + 1) V_1) ∧ (¬ x_2 = 0 → (∃ j_3 : Nat, x4 = nI j_3 ∧ j_3 < 24 ∧ (∀ z_4 : Int32, z_4 = (if (V_1 23 m2 j_3) < 9 then (V_1 23 m2 j_3) else 9) → (∀ z_5 : Int32, z_5 = (if 0 < z_4 then z_4 else 0) → (cI C mX6_change [aR 15 0, aI x4, aI z_5] V_1 (fun x_7 V_6 => ((x_7 = z_5 → I32 x1 m2 x3 (x4 + 1) V_6) ∧ (¬ x_7 = z_5 → I32 x1 m2 (x3 + 1) (x4 + 1) V_6)))))))))))))))
set_option maxRecDepth 10000 in
theorem okX6_pour_32 {d : Nat} {P : Option AV → Mem → Prop} {I32 : Int32 → Nat → Int32 → Int32 → Mem → Prop}   (x1 : Int32) (m2 : Nat) (x3 : Int32) (x4 : Int32) (h_m2 : m2 < 9) (V : Mem) (hk32 : ∀ (x1 : Int32) (m2 : Nat) (x3 : Int32) (x4 : Int32), m2 < 9 → ∀ (V : Mem), I32 x1 m2 x3 x4 V → Gq (Kp (d + 1) mX6_pour UX P) UX cX6_pour 6 RX6 32 [(0, aR 0 0), (1, aI x1), (2, aR 4 m2), (3, aI x3), (4, aI x4)] [] V) (h : wpX6_pour_32 (Cl UX d) I32  x1 m2 x3 x4 V P) : Gq (Kp (d + 1) mX6_pour UX P) UX cX6_pour 6 RX6 32 [(0, aR 0 0), (1, aI x1), (2, aR 4 m2), (3, aI x3), (4, aI x4)] [] V := by
  unfold wpX6_pour_32 at h
  refine go_iload (q := 4) dX6_pour_32 rfl ?_
  refine go_aload_n (q := 2) dX6_pour_34 rfl rfl ?_
  refine go_geti fg_X6_285 dX6_pour_35 (mX (n := 9) (by decide) rfl (by omega)) ?_
  refine go_icmp_ge (tgt := 103) dX6_pour_38 (by decide) (fun c_11 => ?_) (fun c_11 => ?_)
  · have h := h.1 c_11
    refine go_iload_n (q := 3) dX6_pour_103 rfl rfl ?_
    exact go_iret rfl dX6_pour_104 h
  · have h := h.2 c_11
    refine go_iload (q := 4) dX6_pour_41 rfl ?_
    refine go_bipush (v := 24) dX6_pour_43 (by decide) ?_
    refine go_icmp_ge (tgt := 103) dX6_pour_45 (by decide) (fun c_10 => ?_) (fun c_10 => ?_)
    · have h := h.1 c_10
      refine go_iload_n (q := 3) dX6_pour_103 rfl rfl ?_
      exact go_iret rfl dX6_pour_104 h
    · have h := h.2 c_10
      refine go_aload_n (q := 2) dX6_pour_48 rfl rfl ?_
      refine go_iload (q := 4) dX6_pour_49 rfl ?_
      refine go_cVI (As := [aI x4]) (st := []) (r := 4) (i := m2) mv_X3_isNumber dX6_pour_51 ml_X6_288 (hr_Kp (Nat.le_refl d)) rfl rfl (mX (n := 9) (by decide) rfl (by omega)) rfl rfl (Nat.le_of_ble_eq_true rfl) h (fun x_2 V_1 h => ?_)
      refine go_if_eq (tgt := 97) dX6_pour_54 (by decide) (fun c_9 => ?_) (fun c_9 => ?_)
      · have h := h.1 c_9
        refine go_iinc (q := 4) (y := 1) (al1 := [(4, aI (x4 + 1)), (0, aR 0 0), (1, aI x1), (2, aR 4 m2), (3, aI x3)]) dX6_pour_97 rfl (by decide) (by decide) rfl ?_
        refine go_goto (tgt := 32) dX6_pour_100 (by decide) ?_
        refine go_sub (al1 := [(0, aR 0 0), (1, aI x1), (2, aR 4 m2), (3, aI x3), (4, aI (x4 + 1))]) [1, 2, 3, 4, 0] rfl ?_
        exact hk32 x1 m2 x3 (x4 + 1) (by omega) V_1 h
      · have h := h.2 c_9
        refine go_iconst (v := 0) dX6_pour_57 (by decide) ?_
        refine go_bipush (v := 9) dX6_pour_58 (by decide) ?_
        refine go_aload_n (q := 2) dX6_pour_60 rfl rfl ?_
        refine go_getr fg_X6_291 dX6_pour_61 (mX (n := 9) (by decide) rfl (by omega)) ?_
        refine go_iload (q := 4) dX6_pour_64 rfl ?_
        obtain ⟨j_3, e_j_3, l_j_3, h⟩ := h
        refine go_iald (r := 23) (n := 24) (j := j_3) rfl (by decide) dX6_pour_66 (mX (n := 9) (by decide) rfl (by omega)) e_j_3 l_j_3 ?_
        refine go_mmin ml_X6_154 mt_min1 mt_ini mt_min2 (hr_Kp (Nat.zero_le d)) (Nat.le_of_ble_eq_true rfl) dX6_pour_67 ?_
        refine nmI (fun z_4 e_z_4 => ?_)
        have h := h z_4 e_z_4
        refine go_mmax ml_X6_215 mt_max1 mt_ini mt_max2 (hr_Kp (Nat.zero_le d)) (Nat.le_of_ble_eq_true rfl) dX6_pour_70 ?_
        refine nmI (fun z_5 e_z_5 => ?_)
        have h := h z_5 e_z_5
        refine go_istore (al1 := [(5, aI z_5), (0, aR 0 0), (1, aI x1), (2, aR 4 m2), (3, aI x3), (4, aI x4)]) dX6_pour_73 (by decide) rfl ?_
        refine go_aload_n (q := 1) dX6_pour_75 rfl rfl ?_
        refine go_getr fg_X6_21 dX6_pour_76 (mX (n := 1) (by decide) rfl (by omega)) ?_
        refine go_getr fg_X6_178 dX6_pour_79 (mX (n := 3) (by decide) rfl (by omega)) ?_
        refine go_iload (q := 5) dX6_pour_82 rfl ?_
        refine go_iload (q := 0) dX6_pour_84 rfl ?_
        refine go_cSI (As := [aR 15 0, aI x4, aI z_5]) (st := []) ms_X6_change dX6_pour_86 ml_X6_174 (hr_Kp (Nat.le_refl d)) rfl rfl (Nat.le_of_ble_eq_true rfl) h (fun x_7 V_6 h => ?_)
        refine go_iload (q := 0) dX6_pour_89 rfl ?_
        refine go_icmp_eq (tgt := 97) dX6_pour_91 (by decide) (fun c_8 => ?_) (fun c_8 => ?_)
        · have h := h.1 c_8
          refine go_iinc (q := 5) (y := 1) (al1 := [(4, aI (x4 + 1)), (5, aI z_5), (0, aR 0 0), (1, aI x1), (2, aR 4 m2), (3, aI x3)]) dX6_pour_97 rfl (by decide) (by decide) rfl ?_
          refine go_goto (tgt := 32) dX6_pour_100 (by decide) ?_
          refine go_sub (al1 := [(0, aR 0 0), (1, aI x1), (2, aR 4 m2), (3, aI x3), (4, aI (x4 + 1))]) [2, 3, 4, 5, 0] rfl ?_
          exact hk32 x1 m2 x3 (x4 + 1) (by omega) V_6 h
        · have h := h.2 c_8
          refine go_iinc (q := 4) (y := 1) (al1 := [(3, aI (x3 + 1)), (5, aI z_5), (0, aR 0 0), (1, aI x1), (2, aR 4 m2), (4, aI x4)]) dX6_pour_94 rfl (by decide) (by decide) rfl ?_
          refine go_iinc (q := 5) (y := 1) (al1 := [(4, aI (x4 + 1)), (3, aI (x3 + 1)), (5, aI z_5), (0, aR 0 0), (1, aI x1), (2, aR 4 m2)]) dX6_pour_97 rfl (by decide) (by decide) rfl ?_
          refine go_goto (tgt := 32) dX6_pour_100 (by decide) ?_
          refine go_sub (al1 := [(0, aR 0 0), (1, aI x1), (2, aR 4 m2), (3, aI (x3 + 1)), (4, aI (x4 + 1))]) [3, 4, 5, 1, 0] rfl ?_
          exact hk32 x1 m2 (x3 + 1) (x4 + 1) (by omega) V_6 h
def wpX6_pour_0 (C : CT) (I32 : Int32 → Nat → Int32 → Int32 → Mem → Prop)  (x1 : Int32) (V : Mem) (Q : Option AV → Mem → Prop) : Prop :=
  (cI C mX6_isSheet [aI x1] V (fun x_2 V_1 => ((¬ x_2 = 0 → (∃ j_3 : Nat, x1 = nI j_3 ∧ j_3 < 4 ∧ (cI C mX3_isMissing [aR 4 j_3] V_1 (fun x_5 V_4 => ((x_5 = 0 → I32 x1 j_3 0 0 V_4) ∧ (¬ x_5 = 0 → Q (some (aI (-1000000011))) V_4)))))) ∧ (x_2 = 0 → Q (some (aI (-1000000001))) V_1))))
set_option maxRecDepth 10000 in
theorem okX6_pour_0 {d : Nat} {P : Option AV → Mem → Prop} {I32 : Int32 → Nat → Int32 → Int32 → Mem → Prop}   (x1 : Int32)  (V : Mem) (hk32 : ∀ (x1 : Int32) (m2 : Nat) (x3 : Int32) (x4 : Int32), m2 < 9 → ∀ (V : Mem), I32 x1 m2 x3 x4 V → Gq (Kp (d + 1) mX6_pour UX P) UX cX6_pour 6 RX6 32 [(0, aR 0 0), (1, aI x1), (2, aR 4 m2), (3, aI x3), (4, aI x4)] [] V) (h : wpX6_pour_0 (Cl UX d) I32  x1 V P) : Gq (Kp (d + 1) mX6_pour UX P) UX cX6_pour 6 RX6 0 [(0, aR 0 0), (1, aI x1)] [] V := by
  unfold wpX6_pour_0 at h
  refine go_iload_n (q := 1) dX6_pour_0 rfl rfl ?_
  refine go_cSI (As := [aI x1]) (st := []) ms_X6_isSheet dX6_pour_1 ml_X6_223 (hr_Kp (Nat.le_refl d)) rfl rfl (Nat.le_of_ble_eq_true rfl) h (fun x_2 V_1 h => ?_)
  refine go_if_ne (tgt := 10) dX6_pour_4 (by decide) (fun c_7 => ?_) (fun c_7 => ?_)
  · have h := h.1 c_7
    refine go_aload_n (q := 0) dX6_pour_10 rfl rfl ?_
    refine go_getr fg_X6_54 dX6_pour_11 (mX (n := 1) (by decide) rfl (by omega)) ?_
    refine go_iload_n (q := 1) dX6_pour_14 rfl rfl ?_
    obtain ⟨j_3, e_j_3, l_j_3, h⟩ := h
    refine go_aald (r := 19) (n := 4) (j := j_3) rfl rfl (by decide) dX6_pour_15 (mX (n := 1) (by decide) rfl (by omega)) e_j_3 l_j_3 ?_
    refine go_astore_n (al1 := [(2, aR 4 j_3), (0, aR 0 0), (1, aI x1)]) dX6_pour_16 rfl (by decide) rfl ?_
    refine go_aload_n (q := 0) dX6_pour_17 rfl rfl ?_
    refine go_cVI (As := []) (st := []) (r := 4) (i := j_3) mv_X3_isMissing dX6_pour_18 ml_X6_226 (hr_Kp (Nat.le_refl d)) rfl rfl (mX (n := 9) (by decide) rfl (by omega)) rfl rfl (Nat.le_of_ble_eq_true rfl) h (fun x_5 V_4 h => ?_)
    refine go_if_eq (tgt := 27) dX6_pour_21 (by decide) (fun c_6 => ?_) (fun c_6 => ?_)
    · have h := h.1 c_6
      refine go_iconst (v := 0) dX6_pour_27 (by decide) ?_
      refine go_istore_n (al1 := [(3, aI 0), (2, aR 4 j_3), (0, aR 0 0), (1, aI x1)]) dX6_pour_28 rfl (by decide) rfl ?_
      refine go_iconst (v := 0) dX6_pour_29 (by decide) ?_
      refine go_istore (al1 := [(4, aI 0), (3, aI 0), (2, aR 4 j_3), (0, aR 0 0), (1, aI x1)]) dX6_pour_30 (by decide) rfl ?_
      refine go_sub (al1 := [(0, aR 0 0), (1, aI x1), (2, aR 4 j_3), (3, aI 0), (4, aI 0)]) [3, 4, 2, 1, 0] rfl ?_
      exact hk32 x1 j_3 0 0 (by omega) V_4 h
    · have h := h.2 c_6
      refine go_ldc dX6_pour_24 ct_X6_230 ?_
      exact go_iret rfl dX6_pour_26 h
  · have h := h.2 c_7
    refine go_ldc dX6_pour_7 ct_X6_83 ?_
    exact go_iret rfl dX6_pour_9 h
theorem clX6_pour {d : Nat} {P : Option AV → Mem → Prop} {I32 : Int32 → Nat → Int32 → Int32 → Mem → Prop}   (x1 : Int32) (V : Mem) (hk32 : ∀ (x1 : Int32) (m2 : Nat) (x3 : Int32) (x4 : Int32), m2 < 9 → ∀ (V : Mem), I32 x1 m2 x3 x4 V → Gq (Kp (d + 1) mX6_pour UX P) UX cX6_pour 6 RX6 32 [(0, aR 0 0), (1, aI x1), (2, aR 4 m2), (3, aI x3), (4, aI x4)] [] V) (h : wpX6_pour_0 (Cl UX d) I32  x1 V P) : Cl UX (d + 1) mX6_pour [aR 0 0, aI x1] V P :=
  cl_of [(0, aR 0 0), (1, aI x1)] (by decide) (fun _ => Nat.le_of_ble_eq_true rfl) (fun _ => rfl) (okX6_pour_0   x1 V hk32 h)
theorem dX6_reads_0 : decode cX6_reads 0 = .ok (.iload_n 1, 1) := by decide +kernel
theorem dX6_reads_1 : decode cX6_reads 1 = .ok (.invokestatic 223, 3) := by decide +kernel
theorem dX6_reads_4 : decode cX6_reads 4 = .ok (.ifCond .ne 6, 3) := by decide +kernel
theorem dX6_reads_7 : decode cX6_reads 7 = .ok (.ldc 83, 2) := by decide +kernel
theorem dX6_reads_9 : decode cX6_reads 9 = .ok (.ireturn, 1) := by decide +kernel
theorem dX6_reads_10 : decode cX6_reads 10 = .ok (.aload_n 0, 1) := by decide +kernel
theorem dX6_reads_11 : decode cX6_reads 11 = .ok (.getfield 54, 3) := by decide +kernel
theorem dX6_reads_14 : decode cX6_reads 14 = .ok (.iload_n 1, 1) := by decide +kernel
theorem dX6_reads_15 : decode cX6_reads 15 = .ok (.aaload, 1) := by decide +kernel
theorem dX6_reads_16 : decode cX6_reads 16 = .ok (.astore_n 2, 1) := by decide +kernel
theorem dX6_reads_17 : decode cX6_reads 17 = .ok (.aload_n 2, 1) := by decide +kernel
theorem dX6_reads_18 : decode cX6_reads 18 = .ok (.invokevirtual 226, 3) := by decide +kernel
theorem dX6_reads_21 : decode cX6_reads 21 = .ok (.ifCond .eq 6, 3) := by decide +kernel
theorem dX6_reads_24 : decode cX6_reads 24 = .ok (.ldc 230, 2) := by decide +kernel
theorem dX6_reads_26 : decode cX6_reads 26 = .ok (.ireturn, 1) := by decide +kernel
theorem dX6_reads_27 : decode cX6_reads 27 = .ok (.iconst 0, 1) := by decide +kernel
theorem dX6_reads_28 : decode cX6_reads 28 = .ok (.istore_n 3, 1) := by decide +kernel
theorem dX6_reads_29 : decode cX6_reads 29 = .ok (.iload_n 3, 1) := by decide +kernel
theorem dX6_reads_30 : decode cX6_reads 30 = .ok (.aload_n 2, 1) := by decide +kernel
theorem dX6_reads_31 : decode cX6_reads 31 = .ok (.getfield 285, 3) := by decide +kernel
theorem dX6_reads_34 : decode cX6_reads 34 = .ok (.if_icmp .ge 48, 3) := by decide +kernel
theorem dX6_reads_37 : decode cX6_reads 37 = .ok (.aload_n 2, 1) := by decide +kernel
theorem dX6_reads_38 : decode cX6_reads 38 = .ok (.iload_n 3, 1) := by decide +kernel
theorem dX6_reads_39 : decode cX6_reads 39 = .ok (.invokevirtual 288, 3) := by decide +kernel
theorem dX6_reads_42 : decode cX6_reads 42 = .ok (.ifCond .eq 34, 3) := by decide +kernel
theorem dX6_reads_45 : decode cX6_reads 45 = .ok (.aload_n 0, 1) := by decide +kernel
theorem dX6_reads_46 : decode cX6_reads 46 = .ok (.iload_n 3, 1) := by decide +kernel
theorem dX6_reads_47 : decode cX6_reads 47 = .ok (.invokevirtual 92, 3) := by decide +kernel
theorem dX6_reads_50 : decode cX6_reads 50 = .ok (.ifCond .eq 24, 3) := by decide +kernel
theorem dX6_reads_53 : decode cX6_reads 53 = .ok (.aload_n 2, 1) := by decide +kernel
theorem dX6_reads_54 : decode cX6_reads 54 = .ok (.getfield 291, 3) := by decide +kernel
theorem dX6_reads_57 : decode cX6_reads 57 = .ok (.iload_n 3, 1) := by decide +kernel
theorem dX6_reads_58 : decode cX6_reads 58 = .ok (.iaload, 1) := by decide +kernel
theorem dX6_reads_59 : decode cX6_reads 59 = .ok (.aload_n 0, 1) := by decide +kernel
theorem dX6_reads_60 : decode cX6_reads 60 = .ok (.getfield 21, 3) := by decide +kernel
theorem dX6_reads_63 : decode cX6_reads 63 = .ok (.getfield 95, 3) := by decide +kernel
theorem dX6_reads_66 : decode cX6_reads 66 = .ok (.iload_n 3, 1) := by decide +kernel
theorem dX6_reads_67 : decode cX6_reads 67 = .ok (.aaload, 1) := by decide +kernel
theorem dX6_reads_68 : decode cX6_reads 68 = .ok (.getfield 113, 3) := by decide +kernel
theorem dX6_reads_71 : decode cX6_reads 71 = .ok (.if_icmp .eq 5, 3) := by decide +kernel
theorem dX6_reads_74 : decode cX6_reads 74 = .ok (.iload_n 3, 1) := by decide +kernel
theorem dX6_reads_75 : decode cX6_reads 75 = .ok (.ireturn, 1) := by decide +kernel
theorem dX6_reads_76 : decode cX6_reads 76 = .ok (.iinc 3 1, 3) := by decide +kernel
theorem dX6_reads_79 : decode cX6_reads 79 = .ok (.goto (-50), 3) := by decide +kernel
theorem dX6_reads_82 : decode cX6_reads 82 = .ok (.ldc 218, 2) := by decide +kernel
theorem dX6_reads_84 : decode cX6_reads 84 = .ok (.ireturn, 1) := by decide +kernel
def wpX6_reads_29 (C : CT) (I29 : Int32 → Nat → Int32 → Mem → Prop)  (x1 : Int32) (m2 : Nat) (x3 : Int32) (V : Mem) (Q : Option AV → Mem → Prop) : Prop :=
  (((V 4 m2 1) ≤ x3 → Q (some (aI (-1000000005))) V) ∧ (¬ (V 4 m2 1) ≤ x3 → (cI C mX3_isNumber [aR 4 m2, aI x3] V (fun x_2 V_1 => ((x_2 = 0 → I29 x1 m2 (x3 + 1) V_1) ∧ (¬ x_2 = 0 → (cI C mX6_isRoof [aR 0 0, aI x3] V_1 (fun x_4 V_3 => ((x_4 = 0 → Q (some (aI x3)) V_3) ∧ (¬ x_4 = 0 → (∃ j_5 : Nat, x3 = nI j_5 ∧ j_5 < 24 ∧ (∃ j_6 : Nat, x3 = nI j_6 ∧ j_6 < 8 ∧ (((V_3 23 m2 j_5) = (V_3 3 (8 * 0 + j_6) 4) → I29 x1 m2 (x3 + 1) V_3) ∧ (¬ (V_3 23 m2 j_5) = (V_3 3 (8 * 0 + j_6) 4) → Q (some (aI x3)) V_3))))))))))))))
set_option maxRecDepth 10000 in
theorem okX6_reads_29 {d : Nat} {P : Option AV → Mem → Prop} {I29 : Int32 → Nat → Int32 → Mem → Prop}   (x1 : Int32) (m2 : Nat) (x3 : Int32) (h_m2 : m2 < 9) (V : Mem) (hk29 : ∀ (x1 : Int32) (m2 : Nat) (x3 : Int32), m2 < 9 → ∀ (V : Mem), I29 x1 m2 x3 V → Gq (Kp (d + 1) mX6_reads UX P) UX cX6_reads 4 RX6 29 [(0, aR 0 0), (1, aI x1), (2, aR 4 m2), (3, aI x3)] [] V) (h : wpX6_reads_29 (Cl UX d) I29  x1 m2 x3 V P) : Gq (Kp (d + 1) mX6_reads UX P) UX cX6_reads 4 RX6 29 [(0, aR 0 0), (1, aI x1), (2, aR 4 m2), (3, aI x3)] [] V := by
  unfold wpX6_reads_29 at h
  refine go_iload_n (q := 3) dX6_reads_29 rfl rfl ?_
  refine go_aload_n (q := 2) dX6_reads_30 rfl rfl ?_
  refine go_geti fg_X6_285 dX6_reads_31 (mX (n := 9) (by decide) rfl (by omega)) ?_
  refine go_icmp_ge (tgt := 82) dX6_reads_34 (by decide) (fun c_10 => ?_) (fun c_10 => ?_)
  · have h := h.1 c_10
    refine go_ldc dX6_reads_82 ct_X6_218 ?_
    exact go_iret rfl dX6_reads_84 h
  · have h := h.2 c_10
    refine go_aload_n (q := 2) dX6_reads_37 rfl rfl ?_
    refine go_iload_n (q := 3) dX6_reads_38 rfl rfl ?_
    refine go_cVI (As := [aI x3]) (st := []) (r := 4) (i := m2) mv_X3_isNumber dX6_reads_39 ml_X6_288 (hr_Kp (Nat.le_refl d)) rfl rfl (mX (n := 9) (by decide) rfl (by omega)) rfl rfl (Nat.le_of_ble_eq_true rfl) h (fun x_2 V_1 h => ?_)
    refine go_if_eq (tgt := 76) dX6_reads_42 (by decide) (fun c_9 => ?_) (fun c_9 => ?_)
    · have h := h.1 c_9
      refine go_iinc (q := 3) (y := 1) (al1 := [(3, aI (x3 + 1)), (0, aR 0 0), (1, aI x1), (2, aR 4 m2)]) dX6_reads_76 rfl (by decide) (by decide) rfl ?_
      refine go_goto (tgt := 29) dX6_reads_79 (by decide) ?_
      refine go_sub (al1 := [(0, aR 0 0), (1, aI x1), (2, aR 4 m2), (3, aI (x3 + 1))]) [1, 2, 3, 0] rfl ?_
      exact hk29 x1 m2 (x3 + 1) (by omega) V_1 h
    · have h := h.2 c_9
      refine go_aload_n (q := 0) dX6_reads_45 rfl rfl ?_
      refine go_iload_n (q := 3) dX6_reads_46 rfl rfl ?_
      refine go_cVI (As := [aI x3]) (st := []) (r := 0) (i := 0) mv_X6_isRoof dX6_reads_47 ml_X6_92 (hr_Kp (Nat.le_refl d)) rfl rfl (mX (n := 1) (by decide) rfl (by omega)) rfl rfl (Nat.le_of_ble_eq_true rfl) h (fun x_4 V_3 h => ?_)
      refine go_if_eq (tgt := 74) dX6_reads_50 (by decide) (fun c_8 => ?_) (fun c_8 => ?_)
      · have h := h.1 c_8
        refine go_iload_n (q := 3) dX6_reads_74 rfl rfl ?_
        exact go_iret rfl dX6_reads_75 h
      · have h := h.2 c_8
        refine go_aload_n (q := 2) dX6_reads_53 rfl rfl ?_
        refine go_getr fg_X6_291 dX6_reads_54 (mX (n := 9) (by decide) rfl (by omega)) ?_
        refine go_iload_n (q := 3) dX6_reads_57 rfl rfl ?_
        obtain ⟨j_5, e_j_5, l_j_5, h⟩ := h
        refine go_iald (r := 23) (n := 24) (j := j_5) rfl (by decide) dX6_reads_58 (mX (n := 9) (by decide) rfl (by omega)) e_j_5 l_j_5 ?_
        refine go_aload_n (q := 0) dX6_reads_59 rfl rfl ?_
        refine go_getr fg_X6_21 dX6_reads_60 (mX (n := 1) (by decide) rfl (by omega)) ?_
        refine go_getr fg_X6_95 dX6_reads_63 (mX (n := 3) (by decide) rfl (by omega)) ?_
        refine go_iload_n (q := 3) dX6_reads_66 rfl rfl ?_
        obtain ⟨j_6, e_j_6, l_j_6, h⟩ := h
        refine go_aald (r := 13) (n := 8) (j := j_6) rfl rfl (by decide) dX6_reads_67 (mX (n := 3) (by decide) rfl (by omega)) e_j_6 l_j_6 ?_
        refine go_geti fg_X6_113 dX6_reads_68 (mX (n := 29) (by decide) rfl (by omega)) ?_
        refine go_icmp_eq (tgt := 76) dX6_reads_71 (by decide) (fun c_7 => ?_) (fun c_7 => ?_)
        · have h := h.1 c_7
          refine go_iinc (q := 3) (y := 1) (al1 := [(3, aI (x3 + 1)), (0, aR 0 0), (1, aI x1), (2, aR 4 m2)]) dX6_reads_76 rfl (by decide) (by decide) rfl ?_
          refine go_goto (tgt := 29) dX6_reads_79 (by decide) ?_
          refine go_sub (al1 := [(0, aR 0 0), (1, aI x1), (2, aR 4 m2), (3, aI (x3 + 1))]) [1, 2, 3, 0] rfl ?_
          exact hk29 x1 m2 (x3 + 1) (by omega) V_3 h
        · have h := h.2 c_7
          refine go_iload_n (q := 3) dX6_reads_74 rfl rfl ?_
          exact go_iret rfl dX6_reads_75 h
def wpX6_reads_0 (C : CT) (I29 : Int32 → Nat → Int32 → Mem → Prop)  (x1 : Int32) (V : Mem) (Q : Option AV → Mem → Prop) : Prop :=
  (cI C mX6_isSheet [aI x1] V (fun x_2 V_1 => ((¬ x_2 = 0 → (∃ j_3 : Nat, x1 = nI j_3 ∧ j_3 < 4 ∧ (cI C mX3_isMissing [aR 4 j_3] V_1 (fun x_5 V_4 => ((x_5 = 0 → I29 x1 j_3 0 V_4) ∧ (¬ x_5 = 0 → Q (some (aI (-1000000011))) V_4)))))) ∧ (x_2 = 0 → Q (some (aI (-1000000001))) V_1))))
set_option maxRecDepth 10000 in
theorem okX6_reads_0 {d : Nat} {P : Option AV → Mem → Prop} {I29 : Int32 → Nat → Int32 → Mem → Prop}   (x1 : Int32)  (V : Mem) (hk29 : ∀ (x1 : Int32) (m2 : Nat) (x3 : Int32), m2 < 9 → ∀ (V : Mem), I29 x1 m2 x3 V → Gq (Kp (d + 1) mX6_reads UX P) UX cX6_reads 4 RX6 29 [(0, aR 0 0), (1, aI x1), (2, aR 4 m2), (3, aI x3)] [] V) (h : wpX6_reads_0 (Cl UX d) I29  x1 V P) : Gq (Kp (d + 1) mX6_reads UX P) UX cX6_reads 4 RX6 0 [(0, aR 0 0), (1, aI x1)] [] V := by
  unfold wpX6_reads_0 at h
  refine go_iload_n (q := 1) dX6_reads_0 rfl rfl ?_
  refine go_cSI (As := [aI x1]) (st := []) ms_X6_isSheet dX6_reads_1 ml_X6_223 (hr_Kp (Nat.le_refl d)) rfl rfl (Nat.le_of_ble_eq_true rfl) h (fun x_2 V_1 h => ?_)
  refine go_if_ne (tgt := 10) dX6_reads_4 (by decide) (fun c_7 => ?_) (fun c_7 => ?_)
  · have h := h.1 c_7
    refine go_aload_n (q := 0) dX6_reads_10 rfl rfl ?_
    refine go_getr fg_X6_54 dX6_reads_11 (mX (n := 1) (by decide) rfl (by omega)) ?_
    refine go_iload_n (q := 1) dX6_reads_14 rfl rfl ?_
    obtain ⟨j_3, e_j_3, l_j_3, h⟩ := h
    refine go_aald (r := 19) (n := 4) (j := j_3) rfl rfl (by decide) dX6_reads_15 (mX (n := 1) (by decide) rfl (by omega)) e_j_3 l_j_3 ?_
    refine go_astore_n (al1 := [(2, aR 4 j_3), (0, aR 0 0), (1, aI x1)]) dX6_reads_16 rfl (by decide) rfl ?_
    refine go_aload_n (q := 0) dX6_reads_17 rfl rfl ?_
    refine go_cVI (As := []) (st := []) (r := 4) (i := j_3) mv_X3_isMissing dX6_reads_18 ml_X6_226 (hr_Kp (Nat.le_refl d)) rfl rfl (mX (n := 9) (by decide) rfl (by omega)) rfl rfl (Nat.le_of_ble_eq_true rfl) h (fun x_5 V_4 h => ?_)
    refine go_if_eq (tgt := 27) dX6_reads_21 (by decide) (fun c_6 => ?_) (fun c_6 => ?_)
    · have h := h.1 c_6
      refine go_iconst (v := 0) dX6_reads_27 (by decide) ?_
      refine go_istore_n (al1 := [(3, aI 0), (2, aR 4 j_3), (0, aR 0 0), (1, aI x1)]) dX6_reads_28 rfl (by decide) rfl ?_
      refine go_sub (al1 := [(0, aR 0 0), (1, aI x1), (2, aR 4 j_3), (3, aI 0)]) [2, 3, 1, 0] rfl ?_
      exact hk29 x1 j_3 0 (by omega) V_4 h
    · have h := h.2 c_6
      refine go_ldc dX6_reads_24 ct_X6_230 ?_
      exact go_iret rfl dX6_reads_26 h
  · have h := h.2 c_7
    refine go_ldc dX6_reads_7 ct_X6_83 ?_
    exact go_iret rfl dX6_reads_9 h
theorem clX6_reads {d : Nat} {P : Option AV → Mem → Prop} {I29 : Int32 → Nat → Int32 → Mem → Prop}   (x1 : Int32) (V : Mem) (hk29 : ∀ (x1 : Int32) (m2 : Nat) (x3 : Int32), m2 < 9 → ∀ (V : Mem), I29 x1 m2 x3 V → Gq (Kp (d + 1) mX6_reads UX P) UX cX6_reads 4 RX6 29 [(0, aR 0 0), (1, aI x1), (2, aR 4 m2), (3, aI x3)] [] V) (h : wpX6_reads_0 (Cl UX d) I29  x1 V P) : Cl UX (d + 1) mX6_reads [aR 0 0, aI x1] V P :=
  cl_of [(0, aR 0 0), (1, aI x1)] (by decide) (fun _ => Nat.le_of_ble_eq_true rfl) (fun _ => rfl) (okX6_reads_0   x1 V hk29 h)
theorem dX6_copy_0 : decode cX6_copy 0 = .ok (.iload_n 1, 1) := by decide +kernel
theorem dX6_copy_1 : decode cX6_copy 1 = .ok (.invokestatic 223, 3) := by decide +kernel
theorem dX6_copy_4 : decode cX6_copy 4 = .ok (.ifCond .eq 10, 3) := by decide +kernel
theorem dX6_copy_7 : decode cX6_copy 7 = .ok (.iload_n 3, 1) := by decide +kernel
theorem dX6_copy_8 : decode cX6_copy 8 = .ok (.invokestatic 223, 3) := by decide +kernel
theorem dX6_copy_11 : decode cX6_copy 11 = .ok (.ifCond .ne 6, 3) := by decide +kernel
theorem dX6_copy_14 : decode cX6_copy 14 = .ok (.ldc 83, 2) := by decide +kernel
theorem dX6_copy_16 : decode cX6_copy 16 = .ok (.ireturn, 1) := by decide +kernel
theorem dX6_copy_17 : decode cX6_copy 17 = .ok (.aload_n 0, 1) := by decide +kernel
theorem dX6_copy_18 : decode cX6_copy 18 = .ok (.getfield 54, 3) := by decide +kernel
theorem dX6_copy_21 : decode cX6_copy 21 = .ok (.iload_n 1, 1) := by decide +kernel
theorem dX6_copy_22 : decode cX6_copy 22 = .ok (.aaload, 1) := by decide +kernel
theorem dX6_copy_23 : decode cX6_copy 23 = .ok (.astore 6, 2) := by decide +kernel
theorem dX6_copy_25 : decode cX6_copy 25 = .ok (.aload_n 0, 1) := by decide +kernel
theorem dX6_copy_26 : decode cX6_copy 26 = .ok (.getfield 54, 3) := by decide +kernel
theorem dX6_copy_29 : decode cX6_copy 29 = .ok (.iload_n 3, 1) := by decide +kernel
theorem dX6_copy_30 : decode cX6_copy 30 = .ok (.aaload, 1) := by decide +kernel
theorem dX6_copy_31 : decode cX6_copy 31 = .ok (.astore 7, 2) := by decide +kernel
theorem dX6_copy_33 : decode cX6_copy 33 = .ok (.aload 6, 2) := by decide +kernel
theorem dX6_copy_35 : decode cX6_copy 35 = .ok (.invokevirtual 226, 3) := by decide +kernel
theorem dX6_copy_38 : decode cX6_copy 38 = .ok (.ifCond .ne 11, 3) := by decide +kernel
theorem dX6_copy_41 : decode cX6_copy 41 = .ok (.aload 7, 2) := by decide +kernel
theorem dX6_copy_43 : decode cX6_copy 43 = .ok (.invokevirtual 226, 3) := by decide +kernel
theorem dX6_copy_46 : decode cX6_copy 46 = .ok (.ifCond .eq 6, 3) := by decide +kernel
theorem dX6_copy_49 : decode cX6_copy 49 = .ok (.ldc 230, 2) := by decide +kernel
theorem dX6_copy_51 : decode cX6_copy 51 = .ok (.ireturn, 1) := by decide +kernel
theorem dX6_copy_52 : decode cX6_copy 52 = .ok (.aload 6, 2) := by decide +kernel
theorem dX6_copy_54 : decode cX6_copy 54 = .ok (.getfield 278, 3) := by decide +kernel
theorem dX6_copy_57 : decode cX6_copy 57 = .ok (.aload 7, 2) := by decide +kernel
theorem dX6_copy_59 : decode cX6_copy 59 = .ok (.getfield 278, 3) := by decide +kernel
theorem dX6_copy_62 : decode cX6_copy 62 = .ok (.if_icmp .eq 6, 3) := by decide +kernel
theorem dX6_copy_65 : decode cX6_copy 65 = .ok (.ldc 140, 2) := by decide +kernel
theorem dX6_copy_67 : decode cX6_copy 67 = .ok (.ireturn, 1) := by decide +kernel
theorem dX6_copy_68 : decode cX6_copy 68 = .ok (.aload 6, 2) := by decide +kernel
theorem dX6_copy_70 : decode cX6_copy 70 = .ok (.iload_n 2, 1) := by decide +kernel
theorem dX6_copy_71 : decode cX6_copy 71 = .ok (.iload 5, 2) := by decide +kernel
theorem dX6_copy_73 : decode cX6_copy 73 = .ok (.invokevirtual 294, 3) := by decide +kernel
theorem dX6_copy_76 : decode cX6_copy 76 = .ok (.ifCond .eq 15, 3) := by decide +kernel
theorem dX6_copy_79 : decode cX6_copy 79 = .ok (.aload 7, 2) := by decide +kernel
theorem dX6_copy_81 : decode cX6_copy 81 = .ok (.iload 4, 2) := by decide +kernel
theorem dX6_copy_83 : decode cX6_copy 83 = .ok (.iload 5, 2) := by decide +kernel
theorem dX6_copy_85 : decode cX6_copy 85 = .ok (.invokevirtual 294, 3) := by decide +kernel
theorem dX6_copy_88 : decode cX6_copy 88 = .ok (.ifCond .ne 7, 3) := by decide +kernel
theorem dX6_copy_91 : decode cX6_copy 91 = .ok (.ldc_w 277, 3) := by decide +kernel
theorem dX6_copy_94 : decode cX6_copy 94 = .ok (.ireturn, 1) := by decide +kernel
theorem dX6_copy_95 : decode cX6_copy 95 = .ok (.aload 6, 2) := by decide +kernel
theorem dX6_copy_97 : decode cX6_copy 97 = .ok (.getfield 291, 3) := by decide +kernel
theorem dX6_copy_100 : decode cX6_copy 100 = .ok (.iload_n 2, 1) := by decide +kernel
theorem dX6_copy_101 : decode cX6_copy 101 = .ok (.aload 7, 2) := by decide +kernel
theorem dX6_copy_103 : decode cX6_copy 103 = .ok (.getfield 291, 3) := by decide +kernel
theorem dX6_copy_106 : decode cX6_copy 106 = .ok (.iload 4, 2) := by decide +kernel
theorem dX6_copy_108 : decode cX6_copy 108 = .ok (.iload 5, 2) := by decide +kernel
theorem dX6_copy_110 : decode cX6_copy 110 = .ok (.invokestatic 298, 3) := by decide +kernel
theorem dX6_copy_113 : decode cX6_copy 113 = .ok (.iload 5, 2) := by decide +kernel
theorem dX6_copy_115 : decode cX6_copy 115 = .ok (.ireturn, 1) := by decide +kernel
def wpX6_copy_0 (C : CT)   (x1 : Int32) (x2 : Int32) (x3 : Int32) (x4 : Int32) (x5 : Int32) (V : Mem) (Q : Option AV → Mem → Prop) : Prop :=
  (cI C mX6_isSheet [aI x1] V (fun x_2 V_1 => ((x_2 = 0 → Q (some (aI (-1000000001))) V_1) ∧ (¬ x_2 = 0 → (cI C mX6_isSheet [aI x3] V_1 (fun x_4 V_3 => ((¬ x_4 = 0 → (∃ j_5 : Nat, x1 = nI j_5 ∧ j_5 < 4 ∧ (∃ j_6 : Nat, x3 = nI j_6 ∧ j_6 < 4 ∧ (cI C mX3_isMissing [aR 4 j_5] V_3 (fun x_8 V_7 => ((¬ x_8 = 0 → Q (some (aI (-1000000011))) V_7) ∧ (x_8 = 0 → (cI C mX3_isMissing [aR 4 j_6] V_7 (fun x_10 V_9 => ((x_10 = 0 → (((V_9 4 j_5 0) = (V_9 4 j_6 0) → (cI C mX3_hasPlaces [aR 4 j_5, aI x2, aI x5] V_9 (fun x_12 V_11 => ((x_12 = 0 → Q (some (aI (-1000000013))) V_11) ∧ (¬ x_12 = 0 → (cI C mX3_hasPlaces [aR 4 j_6, aI x4, aI x5] V_11 (fun x_14 V_13 => ((¬ x_14 = 0 → (∃ j_15 j_16 j_17 : Nat, x2 = nI j_15 ∧ x4 = nI j_16 ∧ x5 = nI j_17 ∧ j_15 + j_17 ≤ 24 ∧ j_16 + j_17 ≤ 24 ∧ (∀ V_18 : Mem, V_18 = ma V_13 23 j_6 (va_cpy (V_13 23 j_5) (V_13 23 j_6) j_15 j_16 j_17) → Q (some (aI x5)) V_18))) ∧ (x_14 = 0 → Q (some (aI (-1000000013))) V_13))))))))) ∧ (¬ (V_9 4 j_5 0) = (V_9 4 j_6 0) → Q (some (aI (-1000000012))) V_9))) ∧ (¬ x_10 = 0 → Q (some (aI (-1000000011))) V_9))))))))))) ∧ (x_4 = 0 → Q (some (aI (-1000000001))) V_3))))))))
set_option maxRecDepth 10000 in
theorem okX6_copy_0 {d : Nat} {P : Option AV → Mem → Prop}    (x1 : Int32) (x2 : Int32) (x3 : Int32) (x4 : Int32) (x5 : Int32)  (V : Mem)  (h : wpX6_copy_0 (Cl UX d)   x1 x2 x3 x4 x5 V P) : Gq (Kp (d + 1) mX6_copy UX P) UX cX6_copy 8 RX6 0 [(0, aR 0 0), (1, aI x1), (2, aI x2), (3, aI x3), (4, aI x4), (5, aI x5)] [] V := by
  unfold wpX6_copy_0 at h
  refine go_iload_n (q := 1) dX6_copy_0 rfl rfl ?_
  refine go_cSI (As := [aI x1]) (st := []) ms_X6_isSheet dX6_copy_1 ml_X6_223 (hr_Kp (Nat.le_refl d)) rfl rfl (Nat.le_of_ble_eq_true rfl) h (fun x_2 V_1 h => ?_)
  refine go_if_eq (tgt := 14) dX6_copy_4 (by decide) (fun c_25 => ?_) (fun c_25 => ?_)
  · have h := h.1 c_25
    refine go_ldc dX6_copy_14 ct_X6_83 ?_
    exact go_iret rfl dX6_copy_16 h
  · have h := h.2 c_25
    refine go_iload_n (q := 3) dX6_copy_7 rfl rfl ?_
    refine go_cSI (As := [aI x3]) (st := []) ms_X6_isSheet dX6_copy_8 ml_X6_223 (hr_Kp (Nat.le_refl d)) rfl rfl (Nat.le_of_ble_eq_true rfl) h (fun x_4 V_3 h => ?_)
    refine go_if_ne (tgt := 17) dX6_copy_11 (by decide) (fun c_24 => ?_) (fun c_24 => ?_)
    · have h := h.1 c_24
      refine go_aload_n (q := 0) dX6_copy_17 rfl rfl ?_
      refine go_getr fg_X6_54 dX6_copy_18 (mX (n := 1) (by decide) rfl (by omega)) ?_
      refine go_iload_n (q := 1) dX6_copy_21 rfl rfl ?_
      obtain ⟨j_5, e_j_5, l_j_5, h⟩ := h
      refine go_aald (r := 19) (n := 4) (j := j_5) rfl rfl (by decide) dX6_copy_22 (mX (n := 1) (by decide) rfl (by omega)) e_j_5 l_j_5 ?_
      refine go_astore (al1 := [(6, aR 4 j_5), (0, aR 0 0), (1, aI x1), (2, aI x2), (3, aI x3), (4, aI x4), (5, aI x5)]) dX6_copy_23 (by decide) rfl ?_
      refine go_aload_n (q := 1) dX6_copy_25 rfl rfl ?_
      refine go_getr fg_X6_54 dX6_copy_26 (mX (n := 1) (by decide) rfl (by omega)) ?_
      refine go_iload_n (q := 4) dX6_copy_29 rfl rfl ?_
      obtain ⟨j_6, e_j_6, l_j_6, h⟩ := h
      refine go_aald (r := 19) (n := 4) (j := j_6) rfl rfl (by decide) dX6_copy_30 (mX (n := 1) (by decide) rfl (by omega)) e_j_6 l_j_6 ?_
      refine go_astore (al1 := [(7, aR 4 j_6), (6, aR 4 j_5), (0, aR 0 0), (1, aI x1), (2, aI x2), (3, aI x3), (4, aI x4), (5, aI x5)]) dX6_copy_31 (by decide) rfl ?_
      refine go_aload (q := 1) dX6_copy_33 rfl ?_
      refine go_cVI (As := []) (st := []) (r := 4) (i := j_5) mv_X3_isMissing dX6_copy_35 ml_X6_226 (hr_Kp (Nat.le_refl d)) rfl rfl (mX (n := 9) (by decide) rfl (by omega)) rfl rfl (Nat.le_of_ble_eq_true rfl) h (fun x_8 V_7 h => ?_)
      refine go_if_ne (tgt := 49) dX6_copy_38 (by decide) (fun c_23 => ?_) (fun c_23 => ?_)
      · have h := h.1 c_23
        refine go_ldc dX6_copy_49 ct_X6_230 ?_
        exact go_iret rfl dX6_copy_51 h
      · have h := h.2 c_23
        refine go_aload (q := 0) dX6_copy_41 rfl ?_
        refine go_cVI (As := []) (st := []) (r := 4) (i := j_6) mv_X3_isMissing dX6_copy_43 ml_X6_226 (hr_Kp (Nat.le_refl d)) rfl rfl (mX (n := 9) (by decide) rfl (by omega)) rfl rfl (Nat.le_of_ble_eq_true rfl) h (fun x_10 V_9 h => ?_)
        refine go_if_eq (tgt := 52) dX6_copy_46 (by decide) (fun c_22 => ?_) (fun c_22 => ?_)
        · have h := h.1 c_22
          refine go_aload (q := 1) dX6_copy_52 rfl ?_
          refine go_geti fg_X6_278 dX6_copy_54 (mX (n := 9) (by decide) rfl (by omega)) ?_
          refine go_aload (q := 0) dX6_copy_57 rfl ?_
          refine go_geti fg_X6_278 dX6_copy_59 (mX (n := 9) (by decide) rfl (by omega)) ?_
          refine go_icmp_eq (tgt := 68) dX6_copy_62 (by decide) (fun c_21 => ?_) (fun c_21 => ?_)
          · have h := h.1 c_21
            refine go_aload (q := 1) dX6_copy_68 rfl ?_
            refine go_iload_n (q := 4) dX6_copy_70 rfl rfl ?_
            refine go_iload (q := 7) dX6_copy_71 rfl ?_
            refine go_cVI (As := [aI x2, aI x5]) (st := []) (r := 4) (i := j_5) mv_X3_hasPlaces dX6_copy_73 ml_X6_294 (hr_Kp (Nat.le_refl d)) rfl rfl (mX (n := 9) (by decide) rfl (by omega)) rfl rfl (Nat.le_of_ble_eq_true rfl) h (fun x_12 V_11 h => ?_)
            refine go_if_eq (tgt := 91) dX6_copy_76 (by decide) (fun c_20 => ?_) (fun c_20 => ?_)
            · have h := h.1 c_20
              refine go_ldcw dX6_copy_91 ct_X6_277 ?_
              exact go_iret rfl dX6_copy_94 h
            · have h := h.2 c_20
              refine go_aload (q := 0) dX6_copy_79 rfl ?_
              refine go_iload (q := 6) dX6_copy_81 rfl ?_
              refine go_iload (q := 7) dX6_copy_83 rfl ?_
              refine go_cVI (As := [aI x4, aI x5]) (st := []) (r := 4) (i := j_6) mv_X3_hasPlaces dX6_copy_85 ml_X6_294 (hr_Kp (Nat.le_refl d)) rfl rfl (mX (n := 9) (by decide) rfl (by omega)) rfl rfl (Nat.le_of_ble_eq_true rfl) h (fun x_14 V_13 h => ?_)
              refine go_if_ne (tgt := 95) dX6_copy_88 (by decide) (fun c_19 => ?_) (fun c_19 => ?_)
              · have h := h.1 c_19
                refine go_aload (q := 1) dX6_copy_95 rfl ?_
                refine go_getr fg_X6_291 dX6_copy_97 (mX (n := 9) (by decide) rfl (by omega)) ?_
                refine go_iload_n (q := 4) dX6_copy_100 rfl rfl ?_
                refine go_aload (q := 0) dX6_copy_101 rfl ?_
                refine go_getr fg_X6_291 dX6_copy_103 (mX (n := 9) (by decide) rfl (by omega)) ?_
                refine go_iload (q := 6) dX6_copy_106 rfl ?_
                refine go_iload (q := 7) dX6_copy_108 rfl ?_
                obtain ⟨j_15, j_16, j_17, ea_j_15, eb_j_15, ec_j_15, la_j_15, lb_j_15, h⟩ := h
                refine go_copy (r0 := 23) (r1 := 23) (n0 := 24) (n1 := 24) ml_X6_298 ac_1 ac_2 ac_3 (hr_Kp (Nat.zero_le d)) rfl rfl (by decide) (by decide) dX6_copy_110 (mX (n := 9) (by decide) rfl (by omega)) (mX (n := 9) (by decide) rfl (by omega)) rfl ea_j_15 eb_j_15 ec_j_15 la_j_15 lb_j_15 ?_
                refine nmV (fun V_18 e_V_18 => ?_)
                have h := h V_18 e_V_18
                refine go_iload (q := 7) dX6_copy_113 rfl ?_
                exact go_iret rfl dX6_copy_115 h
              · have h := h.2 c_19
                refine go_ldcw dX6_copy_91 ct_X6_277 ?_
                exact go_iret rfl dX6_copy_94 h
          · have h := h.2 c_21
            refine go_ldc dX6_copy_65 ct_X6_140 ?_
            exact go_iret rfl dX6_copy_67 h
        · have h := h.2 c_22
          refine go_ldc dX6_copy_49 ct_X6_230 ?_
          exact go_iret rfl dX6_copy_51 h
    · have h := h.2 c_24
      refine go_ldc dX6_copy_14 ct_X6_83 ?_
      exact go_iret rfl dX6_copy_16 h
theorem clX6_copy {d : Nat} {P : Option AV → Mem → Prop}    (x1 : Int32) (x2 : Int32) (x3 : Int32) (x4 : Int32) (x5 : Int32) (V : Mem)  (h : wpX6_copy_0 (Cl UX d)   x1 x2 x3 x4 x5 V P) : Cl UX (d + 1) mX6_copy [aR 0 0, aI x1, aI x2, aI x3, aI x4, aI x5] V P :=
  cl_of [(0, aR 0 0), (1, aI x1), (2, aI x2), (3, aI x3), (4, aI x4), (5, aI x5)] (by decide) (fun _ => Nat.le_of_ble_eq_true rfl) (fun _ => rfl) (okX6_copy_0   x1 x2 x3 x4 x5 V  h)
theorem dX6_lay_0 : decode cX6_lay 0 = .ok (.iload_n 1, 1) := by decide +kernel
theorem dX6_lay_1 : decode cX6_lay 1 = .ok (.invokestatic 304, 3) := by decide +kernel
theorem dX6_lay_4 : decode cX6_lay 4 = .ok (.ifCond .eq 12, 3) := by decide +kernel
theorem dX6_lay_7 : decode cX6_lay 7 = .ok (.iload_n 2, 1) := by decide +kernel
theorem dX6_lay_8 : decode cX6_lay 8 = .ok (.iconst 0, 1) := by decide +kernel
theorem dX6_lay_9 : decode cX6_lay 9 = .ok (.iconst 3, 1) := by decide +kernel
theorem dX6_lay_10 : decode cX6_lay 10 = .ok (.invokestatic 79, 3) := by decide +kernel
theorem dX6_lay_13 : decode cX6_lay 13 = .ok (.ifCond .ne 6, 3) := by decide +kernel
theorem dX6_lay_16 : decode cX6_lay 16 = .ok (.ldc 83, 2) := by decide +kernel
theorem dX6_lay_18 : decode cX6_lay 18 = .ok (.ireturn, 1) := by decide +kernel
theorem dX6_lay_19 : decode cX6_lay 19 = .ok (.iload_n 2, 1) := by decide +kernel
theorem dX6_lay_20 : decode cX6_lay 20 = .ok (.iconst 1, 1) := by decide +kernel
theorem dX6_lay_21 : decode cX6_lay 21 = .ok (.if_icmp .ne 11, 3) := by decide +kernel
theorem dX6_lay_24 : decode cX6_lay 24 = .ok (.aload_n 0, 1) := by decide +kernel
theorem dX6_lay_25 : decode cX6_lay 25 = .ok (.iload_n 3, 1) := by decide +kernel
theorem dX6_lay_26 : decode cX6_lay 26 = .ok (.invokevirtual 92, 3) := by decide +kernel
theorem dX6_lay_29 : decode cX6_lay 29 = .ok (.ifCond .eq 15, 3) := by decide +kernel
theorem dX6_lay_32 : decode cX6_lay 32 = .ok (.iload_n 2, 1) := by decide +kernel
theorem dX6_lay_33 : decode cX6_lay 33 = .ok (.iconst 2, 1) := by decide +kernel
theorem dX6_lay_34 : decode cX6_lay 34 = .ok (.if_icmp .ne 13, 3) := by decide +kernel
theorem dX6_lay_37 : decode cX6_lay 37 = .ok (.iload_n 3, 1) := by decide +kernel
theorem dX6_lay_38 : decode cX6_lay 38 = .ok (.invokestatic 223, 3) := by decide +kernel
theorem dX6_lay_41 : decode cX6_lay 41 = .ok (.ifCond .ne 6, 3) := by decide +kernel
theorem dX6_lay_44 : decode cX6_lay 44 = .ok (.ldc 83, 2) := by decide +kernel
theorem dX6_lay_46 : decode cX6_lay 46 = .ok (.ireturn, 1) := by decide +kernel
theorem dX6_lay_47 : decode cX6_lay 47 = .ok (.iload_n 2, 1) := by decide +kernel
theorem dX6_lay_48 : decode cX6_lay 48 = .ok (.iconst 2, 1) := by decide +kernel
theorem dX6_lay_49 : decode cX6_lay 49 = .ok (.if_icmp .ne 18, 3) := by decide +kernel
theorem dX6_lay_52 : decode cX6_lay 52 = .ok (.aload_n 0, 1) := by decide +kernel
theorem dX6_lay_53 : decode cX6_lay 53 = .ok (.getfield 54, 3) := by decide +kernel
theorem dX6_lay_56 : decode cX6_lay 56 = .ok (.iload_n 3, 1) := by decide +kernel
theorem dX6_lay_57 : decode cX6_lay 57 = .ok (.aaload, 1) := by decide +kernel
theorem dX6_lay_58 : decode cX6_lay 58 = .ok (.invokevirtual 226, 3) := by decide +kernel
theorem dX6_lay_61 : decode cX6_lay 61 = .ok (.ifCond .eq 6, 3) := by decide +kernel
theorem dX6_lay_64 : decode cX6_lay 64 = .ok (.ldc 230, 2) := by decide +kernel
theorem dX6_lay_66 : decode cX6_lay 66 = .ok (.ireturn, 1) := by decide +kernel
theorem dX6_lay_67 : decode cX6_lay 67 = .ok (.aload_n 0, 1) := by decide +kernel
theorem dX6_lay_68 : decode cX6_lay 68 = .ok (.getfield 60, 3) := by decide +kernel
theorem dX6_lay_71 : decode cX6_lay 71 = .ok (.iload_n 1, 1) := by decide +kernel
theorem dX6_lay_72 : decode cX6_lay 72 = .ok (.aaload, 1) := by decide +kernel
theorem dX6_lay_73 : decode cX6_lay 73 = .ok (.astore 4, 2) := by decide +kernel
theorem dX6_lay_75 : decode cX6_lay 75 = .ok (.aload 4, 2) := by decide +kernel
theorem dX6_lay_77 : decode cX6_lay 77 = .ok (.getfield 307, 3) := by decide +kernel
theorem dX6_lay_80 : decode cX6_lay 80 = .ok (.istore 5, 2) := by decide +kernel
theorem dX6_lay_82 : decode cX6_lay 82 = .ok (.aload 4, 2) := by decide +kernel
theorem dX6_lay_84 : decode cX6_lay 84 = .ok (.iload_n 2, 1) := by decide +kernel
theorem dX6_lay_85 : decode cX6_lay 85 = .ok (.putfield 307, 3) := by decide +kernel
theorem dX6_lay_88 : decode cX6_lay 88 = .ok (.iload_n 2, 1) := by decide +kernel
theorem dX6_lay_89 : decode cX6_lay 89 = .ok (.iconst 1, 1) := by decide +kernel
theorem dX6_lay_90 : decode cX6_lay 90 = .ok (.if_icmp .ne 23, 3) := by decide +kernel
theorem dX6_lay_93 : decode cX6_lay 93 = .ok (.aload 4, 2) := by decide +kernel
theorem dX6_lay_95 : decode cX6_lay 95 = .ok (.getfield 310, 3) := by decide +kernel
theorem dX6_lay_98 : decode cX6_lay 98 = .ok (.aload_n 0, 1) := by decide +kernel
theorem dX6_lay_99 : decode cX6_lay 99 = .ok (.getfield 21, 3) := by decide +kernel
theorem dX6_lay_102 : decode cX6_lay 102 = .ok (.getfield 95, 3) := by decide +kernel
theorem dX6_lay_105 : decode cX6_lay 105 = .ok (.iload_n 3, 1) := by decide +kernel
theorem dX6_lay_106 : decode cX6_lay 106 = .ok (.aaload, 1) := by decide +kernel
theorem dX6_lay_107 : decode cX6_lay 107 = .ok (.invokevirtual 314, 3) := by decide +kernel
theorem dX6_lay_110 : decode cX6_lay 110 = .ok (.goto 36, 3) := by decide +kernel
theorem dX6_lay_113 : decode cX6_lay 113 = .ok (.iload_n 2, 1) := by decide +kernel
theorem dX6_lay_114 : decode cX6_lay 114 = .ok (.iconst 2, 1) := by decide +kernel
theorem dX6_lay_115 : decode cX6_lay 115 = .ok (.if_icmp .ne 20, 3) := by decide +kernel
theorem dX6_lay_118 : decode cX6_lay 118 = .ok (.aload 4, 2) := by decide +kernel
theorem dX6_lay_120 : decode cX6_lay 120 = .ok (.getfield 317, 3) := by decide +kernel
theorem dX6_lay_123 : decode cX6_lay 123 = .ok (.aload_n 0, 1) := by decide +kernel
theorem dX6_lay_124 : decode cX6_lay 124 = .ok (.getfield 54, 3) := by decide +kernel
theorem dX6_lay_127 : decode cX6_lay 127 = .ok (.iload_n 3, 1) := by decide +kernel
theorem dX6_lay_128 : decode cX6_lay 128 = .ok (.aaload, 1) := by decide +kernel
theorem dX6_lay_129 : decode cX6_lay 129 = .ok (.invokevirtual 321, 3) := by decide +kernel
theorem dX6_lay_132 : decode cX6_lay 132 = .ok (.goto 14, 3) := by decide +kernel
theorem dX6_lay_135 : decode cX6_lay 135 = .ok (.iload_n 2, 1) := by decide +kernel
theorem dX6_lay_136 : decode cX6_lay 136 = .ok (.iconst 3, 1) := by decide +kernel
theorem dX6_lay_137 : decode cX6_lay 137 = .ok (.if_icmp .ne 9, 3) := by decide +kernel
theorem dX6_lay_140 : decode cX6_lay 140 = .ok (.aload 4, 2) := by decide +kernel
theorem dX6_lay_142 : decode cX6_lay 142 = .ok (.iload_n 3, 1) := by decide +kernel
theorem dX6_lay_143 : decode cX6_lay 143 = .ok (.putfield 324, 3) := by decide +kernel
theorem dX6_lay_146 : decode cX6_lay 146 = .ok (.iload 5, 2) := by decide +kernel
theorem dX6_lay_148 : decode cX6_lay 148 = .ok (.ireturn, 1) := by decide +kernel
def wpX6_lay_67 (C : CT)   (x1 : Int32) (x2 : Int32) (x3 : Int32) (V : Mem) (Q : Option AV → Mem → Prop) : Prop :=
  (∃ j_1 : Nat, x1 = nI j_1 ∧ j_1 < 5 ∧ (∀ z_2 : Int32, z_2 = (V 5 j_1 0) → (∀ V_3 : Mem, V_3 = mu V 5 j_1 0 x2 → ((¬ x2 = 1 → ((¬ x2 = 2 → ((¬ x2 = 3 → Q (some (aI z_2)) V_3) ∧ (x2 = 3 → (∀ V_4 : Mem, V_4 = mu V_3 5 j_1 1 x3 → Q (some (aI z_2)) V_4)))) ∧ (x2 = 2 → (∃ j_6 : Nat, x3 = nI j_6 ∧ j_6 < 4 ∧ (cV C mX3_become [aR 4 (4 + j_1), aR 4 j_6] V_3 (fun V_7 => Q (some (aI z_2)) V_7)))))) ∧ (x2 = 1 → (∃ j_9 : Nat, x3 = nI j_9 ∧ j_9 < 8 ∧ (cV C mX2_become [aR 3 (24 + j_1), aR 3 (8 * 0 + j_9)] V_3 (fun V_10 => Q (some (aI z_2)) V_10))))))))
set_option maxRecDepth 10000 in
theorem okX6_lay_67 {d : Nat} {P : Option AV → Mem → Prop}    (x1 : Int32) (x2 : Int32) (x3 : Int32)  (V : Mem)  (h : wpX6_lay_67 (Cl UX d)   x1 x2 x3 V P) : Gq (Kp (d + 1) mX6_lay UX P) UX cX6_lay 6 RX6 67 [(0, aR 0 0), (1, aI x1), (2, aI x2), (3, aI x3)] [] V := by
  unfold wpX6_lay_67 at h
  refine go_aload_n (q := 0) dX6_lay_67 rfl rfl ?_
  refine go_getr fg_X6_60 dX6_lay_68 (mX (n := 1) (by decide) rfl (by omega)) ?_
  refine go_iload_n (q := 1) dX6_lay_71 rfl rfl ?_
  obtain ⟨j_1, e_j_1, l_j_1, h⟩ := h
  refine go_aald (r := 20) (n := 5) (j := j_1) rfl rfl (by decide) dX6_lay_72 (mX (n := 1) (by decide) rfl (by omega)) e_j_1 l_j_1 ?_
  refine go_astore (al1 := [(4, aR 5 j_1), (0, aR 0 0), (1, aI x1), (2, aI x2), (3, aI x3)]) dX6_lay_73 (by decide) rfl ?_
  refine go_aload (q := 0) dX6_lay_75 rfl ?_
  refine go_geti fg_X6_307 dX6_lay_77 (mX (n := 5) (by decide) rfl (by omega)) ?_
  refine nmI (fun z_2 e_z_2 => ?_)
  have h := h z_2 e_z_2
  refine go_istore (al1 := [(5, aI z_2), (4, aR 5 j_1), (0, aR 0 0), (1, aI x1), (2, aI x2), (3, aI x3)]) dX6_lay_80 (by decide) rfl ?_
  refine go_aload (q := 1) dX6_lay_82 rfl ?_
  refine go_iload_n (q := 4) dX6_lay_84 rfl rfl ?_
  refine go_puti fp_X6_307 dX6_lay_85 (mX (n := 5) (by decide) rfl (by omega)) ?_
  refine nmV (fun V_3 e_V_3 => ?_)
  have h := h V_3 e_V_3
  refine go_iload_n (q := 4) dX6_lay_88 rfl rfl ?_
  refine go_iconst (v := 1) dX6_lay_89 (by decide) ?_
  refine go_icmp_ne (tgt := 113) dX6_lay_90 (by decide) (fun c_11 => ?_) (fun c_11 => ?_)
  · have h := h.1 c_11
    refine go_iload_n (q := 4) dX6_lay_113 rfl rfl ?_
    refine go_iconst (v := 2) dX6_lay_114 (by decide) ?_
    refine go_icmp_ne (tgt := 135) dX6_lay_115 (by decide) (fun c_8 => ?_) (fun c_8 => ?_)
    · have h := h.1 c_8
      refine go_iload_n (q := 4) dX6_lay_135 rfl rfl ?_
      refine go_iconst (v := 3) dX6_lay_136 (by decide) ?_
      refine go_icmp_ne (tgt := 146) dX6_lay_137 (by decide) (fun c_5 => ?_) (fun c_5 => ?_)
      · have h := h.1 c_5
        refine go_iload (q := 0) dX6_lay_146 rfl ?_
        exact go_iret rfl dX6_lay_148 h
      · have h := h.2 c_5
        refine go_aload (q := 1) dX6_lay_140 rfl ?_
        refine go_iload_n (q := 5) dX6_lay_142 rfl rfl ?_
        refine go_puti fp_X6_324 dX6_lay_143 (mX (n := 5) (by decide) rfl (by omega)) ?_
        refine nmV (fun V_4 e_V_4 => ?_)
        have h := h V_4 e_V_4
        refine go_iload (q := 0) dX6_lay_146 rfl ?_
        exact go_iret rfl dX6_lay_148 h
    · have h := h.2 c_8
      refine go_aload (q := 1) dX6_lay_118 rfl ?_
      refine go_getr fg_X6_317 dX6_lay_120 (mX (n := 5) (by decide) rfl (by omega)) ?_
      refine go_aload_n (q := 2) dX6_lay_123 rfl rfl ?_
      refine go_getr fg_X6_54 dX6_lay_124 (mX (n := 1) (by decide) rfl (by omega)) ?_
      refine go_iload_n (q := 5) dX6_lay_127 rfl rfl ?_
      obtain ⟨j_6, e_j_6, l_j_6, h⟩ := h
      refine go_aald (r := 19) (n := 4) (j := j_6) rfl rfl (by decide) dX6_lay_128 (mX (n := 1) (by decide) rfl (by omega)) e_j_6 l_j_6 ?_
      refine go_cVV (As := [aR 4 j_6]) (st := []) (r := 4) (i := (4 + j_1)) mv_X3_become dX6_lay_129 ml_X6_321 (hr_Kp (Nat.le_refl d)) rfl rfl (mX (n := 9) (by decide) rfl (by omega)) rfl rfl (Nat.le_of_ble_eq_true rfl) h (fun V_7 h => ?_)
      refine go_goto (tgt := 146) dX6_lay_132 (by decide) ?_
      refine go_iload (q := 0) dX6_lay_146 rfl ?_
      exact go_iret rfl dX6_lay_148 h
  · have h := h.2 c_11
    refine go_aload (q := 1) dX6_lay_93 rfl ?_
    refine go_getr fg_X6_310 dX6_lay_95 (mX (n := 5) (by decide) rfl (by omega)) ?_
    refine go_aload_n (q := 2) dX6_lay_98 rfl rfl ?_
    refine go_getr fg_X6_21 dX6_lay_99 (mX (n := 1) (by decide) rfl (by omega)) ?_
    refine go_getr fg_X6_95 dX6_lay_102 (mX (n := 3) (by decide) rfl (by omega)) ?_
    refine go_iload_n (q := 5) dX6_lay_105 rfl rfl ?_
    obtain ⟨j_9, e_j_9, l_j_9, h⟩ := h
    refine go_aald (r := 13) (n := 8) (j := j_9) rfl rfl (by decide) dX6_lay_106 (mX (n := 3) (by decide) rfl (by omega)) e_j_9 l_j_9 ?_
    refine go_cVV (As := [aR 3 (8 * 0 + j_9)]) (st := []) (r := 3) (i := (24 + j_1)) mv_X2_become dX6_lay_107 ml_X6_314 (hr_Kp (Nat.le_refl d)) rfl rfl (mX (n := 29) (by decide) rfl (by omega)) rfl rfl (Nat.le_of_ble_eq_true rfl) h (fun V_10 h => ?_)
    refine go_goto (tgt := 146) dX6_lay_110 (by decide) ?_
    refine go_iload (q := 0) dX6_lay_146 rfl ?_
    exact go_iret rfl dX6_lay_148 h
def wpX6_lay_47 (C : CT)   (x1 : Int32) (x2 : Int32) (x3 : Int32) (V : Mem) (Q : Option AV → Mem → Prop) : Prop :=
  ((¬ x2 = 2 → wpX6_lay_67 C   x1 x2 x3 V Q) ∧ (x2 = 2 → (∃ j_1 : Nat, x3 = nI j_1 ∧ j_1 < 4 ∧ (cI C mX3_isMissing [aR 4 j_1] V (fun x_3 V_2 => ((x_3 = 0 → wpX6_lay_67 C   x1 x2 x3 V_2 Q) ∧ (¬ x_3 = 0 → Q (some (aI (-1000000011))) V_2)))))))
set_option maxRecDepth 10000 in
theorem okX6_lay_47 {d : Nat} {P : Option AV → Mem → Prop}    (x1 : Int32) (x2 : Int32) (x3 : Int32)  (V : Mem)  (h : wpX6_lay_47 (Cl UX d)   x1 x2 x3 V P) : Gq (Kp (d + 1) mX6_lay UX P) UX cX6_lay 6 RX6 47 [(0, aR 0 0), (1, aI x1), (2, aI x2), (3, aI x3)] [] V := by
  unfold wpX6_lay_47 at h
  refine go_iload_n (q := 2) dX6_lay_47 rfl rfl ?_
  refine go_iconst (v := 2) dX6_lay_48 (by decide) ?_
  refine go_icmp_ne (tgt := 67) dX6_lay_49 (by decide) (fun c_5 => ?_) (fun c_5 => ?_)
  · have h := h.1 c_5
    exact okX6_lay_67   x1 x2 x3  V  h
  · have h := h.2 c_5
    refine go_aload_n (q := 0) dX6_lay_52 rfl rfl ?_
    refine go_getr fg_X6_54 dX6_lay_53 (mX (n := 1) (by decide) rfl (by omega)) ?_
    refine go_iload_n (q := 3) dX6_lay_56 rfl rfl ?_
    obtain ⟨j_1, e_j_1, l_j_1, h⟩ := h
    refine go_aald (r := 19) (n := 4) (j := j_1) rfl rfl (by decide) dX6_lay_57 (mX (n := 1) (by decide) rfl (by omega)) e_j_1 l_j_1 ?_
    refine go_cVI (As := []) (st := []) (r := 4) (i := j_1) mv_X3_isMissing dX6_lay_58 ml_X6_226 (hr_Kp (Nat.le_refl d)) rfl rfl (mX (n := 9) (by decide) rfl (by omega)) rfl rfl (Nat.le_of_ble_eq_true rfl) h (fun x_3 V_2 h => ?_)
    refine go_if_eq (tgt := 67) dX6_lay_61 (by decide) (fun c_4 => ?_) (fun c_4 => ?_)
    · have h := h.1 c_4
      exact okX6_lay_67   x1 x2 x3  V_2  h
    · have h := h.2 c_4
      refine go_ldc dX6_lay_64 ct_X6_230 ?_
      exact go_iret rfl dX6_lay_66 h
def wpX6_lay_32 (C : CT)   (x1 : Int32) (x2 : Int32) (x3 : Int32) (V : Mem) (Q : Option AV → Mem → Prop) : Prop :=
  ((¬ x2 = 2 → wpX6_lay_47 C   x1 x2 x3 V Q) ∧ (x2 = 2 → (cI C mX6_isSheet [aI x3] V (fun x_2 V_1 => ((¬ x_2 = 0 → wpX6_lay_47 C   x1 x2 x3 V_1 Q) ∧ (x_2 = 0 → Q (some (aI (-1000000001))) V_1))))))
set_option maxRecDepth 10000 in
theorem okX6_lay_32 {d : Nat} {P : Option AV → Mem → Prop}    (x1 : Int32) (x2 : Int32) (x3 : Int32)  (V : Mem)  (h : wpX6_lay_32 (Cl UX d)   x1 x2 x3 V P) : Gq (Kp (d + 1) mX6_lay UX P) UX cX6_lay 6 RX6 32 [(0, aR 0 0), (1, aI x1), (2, aI x2), (3, aI x3)] [] V := by
  unfold wpX6_lay_32 at h
  refine go_iload_n (q := 2) dX6_lay_32 rfl rfl ?_
  refine go_iconst (v := 2) dX6_lay_33 (by decide) ?_
  refine go_icmp_ne (tgt := 47) dX6_lay_34 (by decide) (fun c_4 => ?_) (fun c_4 => ?_)
  · have h := h.1 c_4
    exact okX6_lay_47   x1 x2 x3  V  h
  · have h := h.2 c_4
    refine go_iload_n (q := 3) dX6_lay_37 rfl rfl ?_
    refine go_cSI (As := [aI x3]) (st := []) ms_X6_isSheet dX6_lay_38 ml_X6_223 (hr_Kp (Nat.le_refl d)) rfl rfl (Nat.le_of_ble_eq_true rfl) h (fun x_2 V_1 h => ?_)
    refine go_if_ne (tgt := 47) dX6_lay_41 (by decide) (fun c_3 => ?_) (fun c_3 => ?_)
    · have h := h.1 c_3
      exact okX6_lay_47   x1 x2 x3  V_1  h
    · have h := h.2 c_3
      refine go_ldc dX6_lay_44 ct_X6_83 ?_
      exact go_iret rfl dX6_lay_46 h
def wpX6_lay_0 (C : CT)   (x1 : Int32) (x2 : Int32) (x3 : Int32) (V : Mem) (Q : Option AV → Mem → Prop) : Prop :=
  (cI C mX6_isSlot [aI x1] V (fun x_2 V_1 => ((x_2 = 0 → Q (some (aI (-1000000001))) V_1) ∧ (¬ x_2 = 0 → (cI C mX6_isWithin [aI x2, aI 0, aI 3] V_1 (fun x_4 V_3 => ((¬ x_4 = 0 → ((¬ x2 = 1 → wpX6_lay_32 C   x1 x2 x3 V_3 Q) ∧ (x2 = 1 → (cI C mX6_isRoof [aR 0 0, aI x3] V_3 (fun x_6 V_5 => ((x_6 = 0 → Q (some (aI (-1000000001))) V_5) ∧ (¬ x_6 = 0 → wpX6_lay_32 C   x1 x2 x3 V_5 Q))))))) ∧ (x_4 = 0 → Q (some (aI (-1000000001))) V_3))))))))
set_option maxRecDepth 10000 in
theorem okX6_lay_0 {d : Nat} {P : Option AV → Mem → Prop}    (x1 : Int32) (x2 : Int32) (x3 : Int32)  (V : Mem)  (h : wpX6_lay_0 (Cl UX d)   x1 x2 x3 V P) : Gq (Kp (d + 1) mX6_lay UX P) UX cX6_lay 6 RX6 0 [(0, aR 0 0), (1, aI x1), (2, aI x2), (3, aI x3)] [] V := by
  unfold wpX6_lay_0 at h
  refine go_iload_n (q := 1) dX6_lay_0 rfl rfl ?_
  refine go_cSI (As := [aI x1]) (st := []) ms_X6_isSlot dX6_lay_1 ml_X6_304 (hr_Kp (Nat.le_refl d)) rfl rfl (Nat.le_of_ble_eq_true rfl) h (fun x_2 V_1 h => ?_)
  refine go_if_eq (tgt := 16) dX6_lay_4 (by decide) (fun c_10 => ?_) (fun c_10 => ?_)
  · have h := h.1 c_10
    refine go_ldc dX6_lay_16 ct_X6_83 ?_
    exact go_iret rfl dX6_lay_18 h
  · have h := h.2 c_10
    refine go_iload_n (q := 2) dX6_lay_7 rfl rfl ?_
    refine go_iconst (v := 0) dX6_lay_8 (by decide) ?_
    refine go_iconst (v := 3) dX6_lay_9 (by decide) ?_
    refine go_cSI (As := [aI x2, aI 0, aI 3]) (st := []) ms_X6_isWithin dX6_lay_10 ml_X6_79 (hr_Kp (Nat.le_refl d)) rfl rfl (Nat.le_of_ble_eq_true rfl) h (fun x_4 V_3 h => ?_)
    refine go_if_ne (tgt := 19) dX6_lay_13 (by decide) (fun c_9 => ?_) (fun c_9 => ?_)
    · have h := h.1 c_9
      refine go_iload_n (q := 2) dX6_lay_19 rfl rfl ?_
      refine go_iconst (v := 1) dX6_lay_20 (by decide) ?_
      refine go_icmp_ne (tgt := 32) dX6_lay_21 (by decide) (fun c_8 => ?_) (fun c_8 => ?_)
      · have h := h.1 c_8
        exact okX6_lay_32   x1 x2 x3  V_3  h
      · have h := h.2 c_8
        refine go_aload_n (q := 0) dX6_lay_24 rfl rfl ?_
        refine go_iload_n (q := 3) dX6_lay_25 rfl rfl ?_
        refine go_cVI (As := [aI x3]) (st := []) (r := 0) (i := 0) mv_X6_isRoof dX6_lay_26 ml_X6_92 (hr_Kp (Nat.le_refl d)) rfl rfl (mX (n := 1) (by decide) rfl (by omega)) rfl rfl (Nat.le_of_ble_eq_true rfl) h (fun x_6 V_5 h => ?_)
        refine go_if_eq (tgt := 44) dX6_lay_29 (by decide) (fun c_7 => ?_) (fun c_7 => ?_)
        · have h := h.1 c_7
          refine go_ldc dX6_lay_44 ct_X6_83 ?_
          exact go_iret rfl dX6_lay_46 h
        · have h := h.2 c_7
          exact okX6_lay_32   x1 x2 x3  V_5  h
    · have h := h.2 c_9
      refine go_ldc dX6_lay_16 ct_X6_83 ?_
      exact go_iret rfl dX6_lay_18 h
theorem clX6_lay {d : Nat} {P : Option AV → Mem → Prop}    (x1 : Int32) (x2 : Int32) (x3 : Int32) (V : Mem)  (h : wpX6_lay_0 (Cl UX d)   x1 x2 x3 V P) : Cl UX (d + 1) mX6_lay [aR 0 0, aI x1, aI x2, aI x3] V P :=
  cl_of [(0, aR 0 0), (1, aI x1), (2, aI x2), (3, aI x3)] (by decide) (fun _ => Nat.le_of_ble_eq_true rfl) (fun _ => rfl) (okX6_lay_0   x1 x2 x3 V  h)
theorem dX6_ask_0 : decode cX6_ask 0 = .ok (.iload_n 1, 1) := by decide +kernel
theorem dX6_ask_1 : decode cX6_ask 1 = .ok (.invokestatic 304, 3) := by decide +kernel
theorem dX6_ask_4 : decode cX6_ask 4 = .ok (.ifCond .eq 10, 3) := by decide +kernel
theorem dX6_ask_7 : decode cX6_ask 7 = .ok (.iload_n 2, 1) := by decide +kernel
theorem dX6_ask_8 : decode cX6_ask 8 = .ok (.invokestatic 75, 3) := by decide +kernel
theorem dX6_ask_11 : decode cX6_ask 11 = .ok (.ifCond .ne 6, 3) := by decide +kernel
theorem dX6_ask_14 : decode cX6_ask 14 = .ok (.ldc 83, 2) := by decide +kernel
theorem dX6_ask_16 : decode cX6_ask 16 = .ok (.ireturn, 1) := by decide +kernel
theorem dX6_ask_17 : decode cX6_ask 17 = .ok (.aload_n 0, 1) := by decide +kernel
theorem dX6_ask_18 : decode cX6_ask 18 = .ok (.getfield 60, 3) := by decide +kernel
theorem dX6_ask_21 : decode cX6_ask 21 = .ok (.iload_n 1, 1) := by decide +kernel
theorem dX6_ask_22 : decode cX6_ask 22 = .ok (.aaload, 1) := by decide +kernel
theorem dX6_ask_23 : decode cX6_ask 23 = .ok (.iconst 1, 1) := by decide +kernel
theorem dX6_ask_24 : decode cX6_ask 24 = .ok (.invokevirtual 327, 3) := by decide +kernel
theorem dX6_ask_27 : decode cX6_ask 27 = .ok (.istore_n 3, 1) := by decide +kernel
theorem dX6_ask_28 : decode cX6_ask 28 = .ok (.iload_n 3, 1) := by decide +kernel
theorem dX6_ask_29 : decode cX6_ask 29 = .ok (.ifCond .eq 5, 3) := by decide +kernel
theorem dX6_ask_32 : decode cX6_ask 32 = .ok (.iload_n 3, 1) := by decide +kernel
theorem dX6_ask_33 : decode cX6_ask 33 = .ok (.ireturn, 1) := by decide +kernel
theorem dX6_ask_34 : decode cX6_ask 34 = .ok (.aload_n 0, 1) := by decide +kernel
theorem dX6_ask_35 : decode cX6_ask 35 = .ok (.getfield 60, 3) := by decide +kernel
theorem dX6_ask_38 : decode cX6_ask 38 = .ok (.iload_n 1, 1) := by decide +kernel
theorem dX6_ask_39 : decode cX6_ask 39 = .ok (.aaload, 1) := by decide +kernel
theorem dX6_ask_40 : decode cX6_ask 40 = .ok (.getfield 310, 3) := by decide +kernel
theorem dX6_ask_43 : decode cX6_ask 43 = .ok (.astore 4, 2) := by decide +kernel
theorem dX6_ask_45 : decode cX6_ask 45 = .ok (.aload 4, 2) := by decide +kernel
theorem dX6_ask_47 : decode cX6_ask 47 = .ok (.iload_n 2, 1) := by decide +kernel
theorem dX6_ask_48 : decode cX6_ask 48 = .ok (.invokevirtual 137, 3) := by decide +kernel
theorem dX6_ask_51 : decode cX6_ask 51 = .ok (.ifCond .eq 11, 3) := by decide +kernel
theorem dX6_ask_54 : decode cX6_ask 54 = .ok (.aload 4, 2) := by decide +kernel
theorem dX6_ask_56 : decode cX6_ask 56 = .ok (.invokevirtual 134, 3) := by decide +kernel
theorem dX6_ask_59 : decode cX6_ask 59 = .ok (.goto 5, 3) := by decide +kernel
theorem dX6_ask_62 : decode cX6_ask 62 = .ok (.ldc 140, 2) := by decide +kernel
theorem dX6_ask_64 : decode cX6_ask 64 = .ok (.ireturn, 1) := by decide +kernel
def wpX6_ask_0 (C : CT)   (x1 : Int32) (x2 : Int32) (V : Mem) (Q : Option AV → Mem → Prop) : Prop :=
  (cI C mX6_isSlot [aI x1] V (fun x_2 V_1 => ((x_2 = 0 → Q (some (aI (-1000000001))) V_1) ∧ (¬ x_2 = 0 → (cI C mX6_isKind [aI x2] V_1 (fun x_4 V_3 => ((¬ x_4 = 0 → (∃ j_5 : Nat, x1 = nI j_5 ∧ j_5 < 5 ∧ (cI C mX4_findingFor [aR 5 j_5, aI 1] V_3 (fun x_7 V_6 => ((x_7 = 0 → (cI C mX2_isOf [aR 3 (24 + j_5), aI x2] V_6 (fun x_9 V_8 => ((x_9 = 0 → Q (some (aI (-1000000012))) V_8) ∧ (¬ x_9 = 0 → (cI C mX2_worth [aR 3 (24 + j_5)] V_8 (fun x_11 V_10 => Q (some (aI x_11)) V_10))))))) ∧ (¬ x_7 = 0 → Q (some (aI x_7)) V_6)))))) ∧ (x_4 = 0 → Q (some (aI (-1000000001))) V_3))))))))
set_option maxRecDepth 10000 in
theorem okX6_ask_0 {d : Nat} {P : Option AV → Mem → Prop}    (x1 : Int32) (x2 : Int32)  (V : Mem)  (h : wpX6_ask_0 (Cl UX d)   x1 x2 V P) : Gq (Kp (d + 1) mX6_ask UX P) UX cX6_ask 5 RX6 0 [(0, aR 0 0), (1, aI x1), (2, aI x2)] [] V := by
  unfold wpX6_ask_0 at h
  refine go_iload_n (q := 1) dX6_ask_0 rfl rfl ?_
  refine go_cSI (As := [aI x1]) (st := []) ms_X6_isSlot dX6_ask_1 ml_X6_304 (hr_Kp (Nat.le_refl d)) rfl rfl (Nat.le_of_ble_eq_true rfl) h (fun x_2 V_1 h => ?_)
  refine go_if_eq (tgt := 14) dX6_ask_4 (by decide) (fun c_15 => ?_) (fun c_15 => ?_)
  · have h := h.1 c_15
    refine go_ldc dX6_ask_14 ct_X6_83 ?_
    exact go_iret rfl dX6_ask_16 h
  · have h := h.2 c_15
    refine go_iload_n (q := 2) dX6_ask_7 rfl rfl ?_
    refine go_cSI (As := [aI x2]) (st := []) ms_X6_isKind dX6_ask_8 ml_X6_75 (hr_Kp (Nat.le_refl d)) rfl rfl (Nat.le_of_ble_eq_true rfl) h (fun x_4 V_3 h => ?_)
    refine go_if_ne (tgt := 17) dX6_ask_11 (by decide) (fun c_14 => ?_) (fun c_14 => ?_)
    · have h := h.1 c_14
      refine go_aload_n (q := 0) dX6_ask_17 rfl rfl ?_
      refine go_getr fg_X6_60 dX6_ask_18 (mX (n := 1) (by decide) rfl (by omega)) ?_
      refine go_iload_n (q := 1) dX6_ask_21 rfl rfl ?_
      obtain ⟨j_5, e_j_5, l_j_5, h⟩ := h
      refine go_aald (r := 20) (n := 5) (j := j_5) rfl rfl (by decide) dX6_ask_22 (mX (n := 1) (by decide) rfl (by omega)) e_j_5 l_j_5 ?_
      refine go_iconst (v := 1) dX6_ask_23 (by decide) ?_
      refine go_cVI (As := [aI 1]) (st := []) (r := 5) (i := j_5) mv_X4_findingFor dX6_ask_24 ml_X6_327 (hr_Kp (Nat.le_refl d)) rfl rfl (mX (n := 5) (by decide) rfl (by omega)) rfl rfl (Nat.le_of_ble_eq_true rfl) h (fun x_7 V_6 h => ?_)
      refine go_istore_n (al1 := [(3, aI x_7), (0, aR 0 0), (1, aI x1), (2, aI x2)]) dX6_ask_27 rfl (by decide) rfl ?_
      refine go_iload_n (q := 0) dX6_ask_28 rfl rfl ?_
      refine go_if_eq (tgt := 34) dX6_ask_29 (by decide) (fun c_13 => ?_) (fun c_13 => ?_)
      · have h := h.1 c_13
        refine go_aload_n (q := 1) dX6_ask_34 rfl rfl ?_
        refine go_getr fg_X6_60 dX6_ask_35 (mX (n := 1) (by decide) rfl (by omega)) ?_
        refine go_iload_n (q := 2) dX6_ask_38 rfl rfl ?_
        refine go_aald (r := 20) (n := 5) (j := j_5) rfl rfl (by decide) dX6_ask_39 (mX (n := 1) (by decide) rfl (by omega)) e_j_5 (by omega) ?_
        refine go_getr fg_X6_310 dX6_ask_40 (mX (n := 5) (by decide) rfl (by omega)) ?_
        refine go_astore (al1 := [(4, aR 3 (24 + j_5)), (3, aI x_7), (0, aR 0 0), (1, aI x1), (2, aI x2)]) dX6_ask_43 (by decide) rfl ?_
        refine go_aload (q := 0) dX6_ask_45 rfl ?_
        refine go_iload_n (q := 4) dX6_ask_47 rfl rfl ?_
        refine go_cVI (As := [aI x2]) (st := []) (r := 3) (i := (24 + j_5)) mv_X2_isOf dX6_ask_48 ml_X6_137 (hr_Kp (Nat.le_refl d)) rfl rfl (mX (n := 29) (by decide) rfl (by omega)) rfl rfl (Nat.le_of_ble_eq_true rfl) h (fun x_9 V_8 h => ?_)
        refine go_if_eq (tgt := 62) dX6_ask_51 (by decide) (fun c_12 => ?_) (fun c_12 => ?_)
        · have h := h.1 c_12
          refine go_ldc dX6_ask_62 ct_X6_140 ?_
          exact go_iret rfl dX6_ask_64 h
        · have h := h.2 c_12
          refine go_aload (q := 0) dX6_ask_54 rfl ?_
          refine go_cVI (As := []) (st := []) (r := 3) (i := (24 + j_5)) mv_X2_worth dX6_ask_56 ml_X6_134 (hr_Kp (Nat.le_refl d)) rfl rfl (mX (n := 29) (by decide) rfl (by omega)) rfl rfl (Nat.le_of_ble_eq_true rfl) h (fun x_11 V_10 h => ?_)
          refine go_goto (tgt := 64) dX6_ask_59 (by decide) ?_
          exact go_iret rfl dX6_ask_64 h
      · have h := h.2 c_13
        refine go_iload_n (q := 0) dX6_ask_32 rfl rfl ?_
        exact go_iret rfl dX6_ask_33 h
    · have h := h.2 c_14
      refine go_ldc dX6_ask_14 ct_X6_83 ?_
      exact go_iret rfl dX6_ask_16 h
theorem clX6_ask {d : Nat} {P : Option AV → Mem → Prop}    (x1 : Int32) (x2 : Int32) (V : Mem)  (h : wpX6_ask_0 (Cl UX d)   x1 x2 V P) : Cl UX (d + 1) mX6_ask [aR 0 0, aI x1, aI x2] V P :=
  cl_of [(0, aR 0 0), (1, aI x1), (2, aI x2)] (by decide) (fun _ => Nat.le_of_ble_eq_true rfl) (fun _ => rfl) (okX6_ask_0   x1 x2 V  h)
theorem dX6_item_0 : decode cX6_item 0 = .ok (.iload_n 1, 1) := by decide +kernel
theorem dX6_item_1 : decode cX6_item 1 = .ok (.invokestatic 304, 3) := by decide +kernel
theorem dX6_item_4 : decode cX6_item 4 = .ok (.ifCond .ne 6, 3) := by decide +kernel
theorem dX6_item_7 : decode cX6_item 7 = .ok (.ldc 83, 2) := by decide +kernel
theorem dX6_item_9 : decode cX6_item 9 = .ok (.ireturn, 1) := by decide +kernel
theorem dX6_item_10 : decode cX6_item 10 = .ok (.aload_n 0, 1) := by decide +kernel
theorem dX6_item_11 : decode cX6_item 11 = .ok (.getfield 60, 3) := by decide +kernel
theorem dX6_item_14 : decode cX6_item 14 = .ok (.iload_n 1, 1) := by decide +kernel
theorem dX6_item_15 : decode cX6_item 15 = .ok (.aaload, 1) := by decide +kernel
theorem dX6_item_16 : decode cX6_item 16 = .ok (.iconst 2, 1) := by decide +kernel
theorem dX6_item_17 : decode cX6_item 17 = .ok (.invokevirtual 327, 3) := by decide +kernel
theorem dX6_item_20 : decode cX6_item 20 = .ok (.istore_n 3, 1) := by decide +kernel
theorem dX6_item_21 : decode cX6_item 21 = .ok (.iload_n 3, 1) := by decide +kernel
theorem dX6_item_22 : decode cX6_item 22 = .ok (.ifCond .eq 5, 3) := by decide +kernel
theorem dX6_item_25 : decode cX6_item 25 = .ok (.iload_n 3, 1) := by decide +kernel
theorem dX6_item_26 : decode cX6_item 26 = .ok (.ireturn, 1) := by decide +kernel
theorem dX6_item_27 : decode cX6_item 27 = .ok (.aload_n 0, 1) := by decide +kernel
theorem dX6_item_28 : decode cX6_item 28 = .ok (.getfield 60, 3) := by decide +kernel
theorem dX6_item_31 : decode cX6_item 31 = .ok (.iload_n 1, 1) := by decide +kernel
theorem dX6_item_32 : decode cX6_item 32 = .ok (.aaload, 1) := by decide +kernel
theorem dX6_item_33 : decode cX6_item 33 = .ok (.getfield 317, 3) := by decide +kernel
theorem dX6_item_36 : decode cX6_item 36 = .ok (.astore 4, 2) := by decide +kernel
theorem dX6_item_38 : decode cX6_item 38 = .ok (.aload 4, 2) := by decide +kernel
theorem dX6_item_40 : decode cX6_item 40 = .ok (.iload_n 2, 1) := by decide +kernel
theorem dX6_item_41 : decode cX6_item 41 = .ok (.invokevirtual 274, 3) := by decide +kernel
theorem dX6_item_44 : decode cX6_item 44 = .ok (.ifCond .ne 7, 3) := by decide +kernel
theorem dX6_item_47 : decode cX6_item 47 = .ok (.ldc_w 277, 3) := by decide +kernel
theorem dX6_item_50 : decode cX6_item 50 = .ok (.ireturn, 1) := by decide +kernel
theorem dX6_item_51 : decode cX6_item 51 = .ok (.aload 4, 2) := by decide +kernel
theorem dX6_item_53 : decode cX6_item 53 = .ok (.iload_n 2, 1) := by decide +kernel
theorem dX6_item_54 : decode cX6_item 54 = .ok (.invokevirtual 288, 3) := by decide +kernel
theorem dX6_item_57 : decode cX6_item 57 = .ok (.ifCond .eq 13, 3) := by decide +kernel
theorem dX6_item_60 : decode cX6_item 60 = .ok (.aload 4, 2) := by decide +kernel
theorem dX6_item_62 : decode cX6_item 62 = .ok (.getfield 291, 3) := by decide +kernel
theorem dX6_item_65 : decode cX6_item 65 = .ok (.iload_n 2, 1) := by decide +kernel
theorem dX6_item_66 : decode cX6_item 66 = .ok (.iaload, 1) := by decide +kernel
theorem dX6_item_67 : decode cX6_item 67 = .ok (.goto 5, 3) := by decide +kernel
theorem dX6_item_70 : decode cX6_item 70 = .ok (.ldc 140, 2) := by decide +kernel
theorem dX6_item_72 : decode cX6_item 72 = .ok (.ireturn, 1) := by decide +kernel
def wpX6_item_0 (C : CT)   (x1 : Int32) (x2 : Int32) (V : Mem) (Q : Option AV → Mem → Prop) : Prop :=
  (cI C mX6_isSlot [aI x1] V (fun x_2 V_1 => ((¬ x_2 = 0 → (∃ j_3 : Nat, x1 = nI j_3 ∧ j_3 < 5 ∧ (cI C mX4_findingFor [aR 5 j_3, aI 2] V_1 (fun x_5 V_4 => ((x_5 = 0 → (cI C mX3_hasPlace [aR 4 (4 + j_3), aI x2] V_4 (fun x_7 V_6 => ((¬ x_7 = 0 → (cI C mX3_isNumber [aR 4 (4 + j_3), aI x2] V_6 (fun x_9 V_8 => ((x_9 = 0 → Q (some (aI (-1000000012))) V_8) ∧ (¬ x_9 = 0 → (∃ j_10 : Nat, x2 = nI j_10 ∧ j_10 < 24 ∧ Q (some (aI (V_8 23 (4 + j_3) j_10))) V_8)))))) ∧ (x_7 = 0 → Q (some (aI (-1000000013))) V_6))))) ∧ (¬ x_5 = 0 → Q (some (aI x_5)) V_4)))))) ∧ (x_2 = 0 → Q (some (aI (-1000000001))) V_1))))
set_option maxRecDepth 10000 in
theorem okX6_item_0 {d : Nat} {P : Option AV → Mem → Prop}    (x1 : Int32) (x2 : Int32)  (V : Mem)  (h : wpX6_item_0 (Cl UX d)   x1 x2 V P) : Gq (Kp (d + 1) mX6_item UX P) UX cX6_item 5 RX6 0 [(0, aR 0 0), (1, aI x1), (2, aI x2)] [] V := by
  unfold wpX6_item_0 at h
  refine go_iload_n (q := 1) dX6_item_0 rfl rfl ?_
  refine go_cSI (As := [aI x1]) (st := []) ms_X6_isSlot dX6_item_1 ml_X6_304 (hr_Kp (Nat.le_refl d)) rfl rfl (Nat.le_of_ble_eq_true rfl) h (fun x_2 V_1 h => ?_)
  refine go_if_ne (tgt := 10) dX6_item_4 (by decide) (fun c_14 => ?_) (fun c_14 => ?_)
  · have h := h.1 c_14
    refine go_aload_n (q := 0) dX6_item_10 rfl rfl ?_
    refine go_getr fg_X6_60 dX6_item_11 (mX (n := 1) (by decide) rfl (by omega)) ?_
    refine go_iload_n (q := 1) dX6_item_14 rfl rfl ?_
    obtain ⟨j_3, e_j_3, l_j_3, h⟩ := h
    refine go_aald (r := 20) (n := 5) (j := j_3) rfl rfl (by decide) dX6_item_15 (mX (n := 1) (by decide) rfl (by omega)) e_j_3 l_j_3 ?_
    refine go_iconst (v := 2) dX6_item_16 (by decide) ?_
    refine go_cVI (As := [aI 2]) (st := []) (r := 5) (i := j_3) mv_X4_findingFor dX6_item_17 ml_X6_327 (hr_Kp (Nat.le_refl d)) rfl rfl (mX (n := 5) (by decide) rfl (by omega)) rfl rfl (Nat.le_of_ble_eq_true rfl) h (fun x_5 V_4 h => ?_)
    refine go_istore_n (al1 := [(3, aI x_5), (0, aR 0 0), (1, aI x1), (2, aI x2)]) dX6_item_20 rfl (by decide) rfl ?_
    refine go_iload_n (q := 0) dX6_item_21 rfl rfl ?_
    refine go_if_eq (tgt := 27) dX6_item_22 (by decide) (fun c_13 => ?_) (fun c_13 => ?_)
    · have h := h.1 c_13
      refine go_aload_n (q := 1) dX6_item_27 rfl rfl ?_
      refine go_getr fg_X6_60 dX6_item_28 (mX (n := 1) (by decide) rfl (by omega)) ?_
      refine go_iload_n (q := 2) dX6_item_31 rfl rfl ?_
      refine go_aald (r := 20) (n := 5) (j := j_3) rfl rfl (by decide) dX6_item_32 (mX (n := 1) (by decide) rfl (by omega)) e_j_3 (by omega) ?_
      refine go_getr fg_X6_317 dX6_item_33 (mX (n := 5) (by decide) rfl (by omega)) ?_
      refine go_astore (al1 := [(4, aR 4 (4 + j_3)), (3, aI x_5), (0, aR 0 0), (1, aI x1), (2, aI x2)]) dX6_item_36 (by decide) rfl ?_
      refine go_aload (q := 0) dX6_item_38 rfl ?_
      refine go_iload_n (q := 4) dX6_item_40 rfl rfl ?_
      refine go_cVI (As := [aI x2]) (st := []) (r := 4) (i := (4 + j_3)) mv_X3_hasPlace dX6_item_41 ml_X6_274 (hr_Kp (Nat.le_refl d)) rfl rfl (mX (n := 9) (by decide) rfl (by omega)) rfl rfl (Nat.le_of_ble_eq_true rfl) h (fun x_7 V_6 h => ?_)
      refine go_if_ne (tgt := 51) dX6_item_44 (by decide) (fun c_12 => ?_) (fun c_12 => ?_)
      · have h := h.1 c_12
        refine go_aload (q := 0) dX6_item_51 rfl ?_
        refine go_iload_n (q := 4) dX6_item_53 rfl rfl ?_
        refine go_cVI (As := [aI x2]) (st := []) (r := 4) (i := (4 + j_3)) mv_X3_isNumber dX6_item_54 ml_X6_288 (hr_Kp (Nat.le_refl d)) rfl rfl (mX (n := 9) (by decide) rfl (by omega)) rfl rfl (Nat.le_of_ble_eq_true rfl) h (fun x_9 V_8 h => ?_)
        refine go_if_eq (tgt := 70) dX6_item_57 (by decide) (fun c_11 => ?_) (fun c_11 => ?_)
        · have h := h.1 c_11
          refine go_ldc dX6_item_70 ct_X6_140 ?_
          exact go_iret rfl dX6_item_72 h
        · have h := h.2 c_11
          refine go_aload (q := 0) dX6_item_60 rfl ?_
          refine go_getr fg_X6_291 dX6_item_62 (mX (n := 9) (by decide) rfl (by omega)) ?_
          refine go_iload_n (q := 4) dX6_item_65 rfl rfl ?_
          obtain ⟨j_10, e_j_10, l_j_10, h⟩ := h
          refine go_iald (r := 23) (n := 24) (j := j_10) rfl (by decide) dX6_item_66 (mX (n := 9) (by decide) rfl (by omega)) e_j_10 l_j_10 ?_
          refine go_goto (tgt := 72) dX6_item_67 (by decide) ?_
          exact go_iret rfl dX6_item_72 h
      · have h := h.2 c_12
        refine go_ldcw dX6_item_47 ct_X6_277 ?_
        exact go_iret rfl dX6_item_50 h
    · have h := h.2 c_13
      refine go_iload_n (q := 0) dX6_item_25 rfl rfl ?_
      exact go_iret rfl dX6_item_26 h
  · have h := h.2 c_14
    refine go_ldc dX6_item_7 ct_X6_83 ?_
    exact go_iret rfl dX6_item_9 h
theorem clX6_item {d : Nat} {P : Option AV → Mem → Prop}    (x1 : Int32) (x2 : Int32) (V : Mem)  (h : wpX6_item_0 (Cl UX d)   x1 x2 V P) : Cl UX (d + 1) mX6_item [aR 0 0, aI x1, aI x2] V P :=
  cl_of [(0, aR 0 0), (1, aI x1), (2, aI x2)] (by decide) (fun _ => Nat.le_of_ble_eq_true rfl) (fun _ => rfl) (okX6_item_0   x1 x2 V  h)
theorem dX6_rest_0 : decode cX6_rest 0 = .ok (.iload_n 1, 1) := by decide +kernel
theorem dX6_rest_1 : decode cX6_rest 1 = .ok (.invokestatic 304, 3) := by decide +kernel
theorem dX6_rest_4 : decode cX6_rest 4 = .ok (.ifCond .ne 6, 3) := by decide +kernel
theorem dX6_rest_7 : decode cX6_rest 7 = .ok (.ldc 83, 2) := by decide +kernel
theorem dX6_rest_9 : decode cX6_rest 9 = .ok (.ireturn, 1) := by decide +kernel
theorem dX6_rest_10 : decode cX6_rest 10 = .ok (.aload_n 0, 1) := by decide +kernel
theorem dX6_rest_11 : decode cX6_rest 11 = .ok (.getfield 60, 3) := by decide +kernel
theorem dX6_rest_14 : decode cX6_rest 14 = .ok (.iload_n 1, 1) := by decide +kernel
theorem dX6_rest_15 : decode cX6_rest 15 = .ok (.aaload, 1) := by decide +kernel
theorem dX6_rest_16 : decode cX6_rest 16 = .ok (.iconst 3, 1) := by decide +kernel
theorem dX6_rest_17 : decode cX6_rest 17 = .ok (.invokevirtual 327, 3) := by decide +kernel
theorem dX6_rest_20 : decode cX6_rest 20 = .ok (.istore_n 3, 1) := by decide +kernel
theorem dX6_rest_21 : decode cX6_rest 21 = .ok (.iload_n 3, 1) := by decide +kernel
theorem dX6_rest_22 : decode cX6_rest 22 = .ok (.ifCond .eq 5, 3) := by decide +kernel
theorem dX6_rest_25 : decode cX6_rest 25 = .ok (.iload_n 3, 1) := by decide +kernel
theorem dX6_rest_26 : decode cX6_rest 26 = .ok (.ireturn, 1) := by decide +kernel
theorem dX6_rest_27 : decode cX6_rest 27 = .ok (.iload_n 2, 1) := by decide +kernel
theorem dX6_rest_28 : decode cX6_rest 28 = .ok (.ifCond .ne 9, 3) := by decide +kernel
theorem dX6_rest_31 : decode cX6_rest 31 = .ok (.ldc_w 330, 3) := by decide +kernel
theorem dX6_rest_34 : decode cX6_rest 34 = .ok (.goto 14, 3) := by decide +kernel
theorem dX6_rest_37 : decode cX6_rest 37 = .ok (.aload_n 0, 1) := by decide +kernel
theorem dX6_rest_38 : decode cX6_rest 38 = .ok (.getfield 60, 3) := by decide +kernel
theorem dX6_rest_41 : decode cX6_rest 41 = .ok (.iload_n 1, 1) := by decide +kernel
theorem dX6_rest_42 : decode cX6_rest 42 = .ok (.aaload, 1) := by decide +kernel
theorem dX6_rest_43 : decode cX6_rest 43 = .ok (.getfield 324, 3) := by decide +kernel
theorem dX6_rest_46 : decode cX6_rest 46 = .ok (.iload_n 2, 1) := by decide +kernel
theorem dX6_rest_47 : decode cX6_rest 47 = .ok (.irem, 1) := by decide +kernel
theorem dX6_rest_48 : decode cX6_rest 48 = .ok (.ireturn, 1) := by decide +kernel
def wpX6_rest_0 (C : CT)   (x1 : Int32) (x2 : Int32) (V : Mem) (Q : Option AV → Mem → Prop) : Prop :=
  (cI C mX6_isSlot [aI x1] V (fun x_2 V_1 => ((¬ x_2 = 0 → (∃ j_3 : Nat, x1 = nI j_3 ∧ j_3 < 5 ∧ (cI C mX4_findingFor [aR 5 j_3, aI 3] V_1 (fun x_5 V_4 => ((x_5 = 0 → ((¬ x2 = 0 → (¬ x2 = 0 ∧ (∀ z_7 : Int32, z_7 = ((V_4 5 j_3 1) - (V_4 5 j_3 1) / x2 * x2) → Q (some (aI z_7)) V_4))) ∧ (x2 = 0 → Q (some (aI (-1000000002))) V_4))) ∧ (¬ x_5 = 0 → Q (some (aI x_5)) V_4)))))) ∧ (x_2 = 0 → Q (some (aI (-1000000001))) V_1))))
set_option maxRecDepth 10000 in
theorem okX6_rest_0 {d : Nat} {P : Option AV → Mem → Prop}    (x1 : Int32) (x2 : Int32)  (V : Mem)  (h : wpX6_rest_0 (Cl UX d)   x1 x2 V P) : Gq (Kp (d + 1) mX6_rest UX P) UX cX6_rest 4 RX6 0 [(0, aR 0 0), (1, aI x1), (2, aI x2)] [] V := by
  unfold wpX6_rest_0 at h
  refine go_iload_n (q := 1) dX6_rest_0 rfl rfl ?_
  refine go_cSI (As := [aI x1]) (st := []) ms_X6_isSlot dX6_rest_1 ml_X6_304 (hr_Kp (Nat.le_refl d)) rfl rfl (Nat.le_of_ble_eq_true rfl) h (fun x_2 V_1 h => ?_)
  refine go_if_ne (tgt := 10) dX6_rest_4 (by decide) (fun c_10 => ?_) (fun c_10 => ?_)
  · have h := h.1 c_10
    refine go_aload_n (q := 0) dX6_rest_10 rfl rfl ?_
    refine go_getr fg_X6_60 dX6_rest_11 (mX (n := 1) (by decide) rfl (by omega)) ?_
    refine go_iload_n (q := 1) dX6_rest_14 rfl rfl ?_
    obtain ⟨j_3, e_j_3, l_j_3, h⟩ := h
    refine go_aald (r := 20) (n := 5) (j := j_3) rfl rfl (by decide) dX6_rest_15 (mX (n := 1) (by decide) rfl (by omega)) e_j_3 l_j_3 ?_
    refine go_iconst (v := 3) dX6_rest_16 (by decide) ?_
    refine go_cVI (As := [aI 3]) (st := []) (r := 5) (i := j_3) mv_X4_findingFor dX6_rest_17 ml_X6_327 (hr_Kp (Nat.le_refl d)) rfl rfl (mX (n := 5) (by decide) rfl (by omega)) rfl rfl (Nat.le_of_ble_eq_true rfl) h (fun x_5 V_4 h => ?_)
    refine go_istore_n (al1 := [(3, aI x_5), (0, aR 0 0), (1, aI x1), (2, aI x2)]) dX6_rest_20 rfl (by decide) rfl ?_
    refine go_iload_n (q := 0) dX6_rest_21 rfl rfl ?_
    refine go_if_eq (tgt := 27) dX6_rest_22 (by decide) (fun c_9 => ?_) (fun c_9 => ?_)
    · have h := h.1 c_9
      refine go_iload_n (q := 3) dX6_rest_27 rfl rfl ?_
      refine go_if_ne (tgt := 37) dX6_rest_28 (by decide) (fun c_8 => ?_) (fun c_8 => ?_)
      · have h := h.1 c_8
        refine go_aload_n (q := 1) dX6_rest_37 rfl rfl ?_
        refine go_getr fg_X6_60 dX6_rest_38 (mX (n := 1) (by decide) rfl (by omega)) ?_
        refine go_iload_n (q := 2) dX6_rest_41 rfl rfl ?_
        refine go_aald (r := 20) (n := 5) (j := j_3) rfl rfl (by decide) dX6_rest_42 (mX (n := 1) (by decide) rfl (by omega)) e_j_3 (by omega) ?_
        refine go_geti fg_X6_324 dX6_rest_43 (mX (n := 5) (by decide) rfl (by omega)) ?_
        refine go_iload_n (q := 3) dX6_rest_46 rfl rfl ?_
        obtain ⟨c_6, h⟩ := h
        refine go_irem dX6_rest_47 c_6 ?_
        refine nmI (fun z_7 e_z_7 => ?_)
        have h := h z_7 e_z_7
        exact go_iret rfl dX6_rest_48 h
      · have h := h.2 c_8
        refine go_ldcw dX6_rest_31 ct_X6_330 ?_
        refine go_goto (tgt := 48) dX6_rest_34 (by decide) ?_
        exact go_iret rfl dX6_rest_48 h
    · have h := h.2 c_9
      refine go_iload_n (q := 0) dX6_rest_25 rfl rfl ?_
      exact go_iret rfl dX6_rest_26 h
  · have h := h.2 c_10
    refine go_ldc dX6_rest_7 ct_X6_83 ?_
    exact go_iret rfl dX6_rest_9 h
theorem clX6_rest {d : Nat} {P : Option AV → Mem → Prop}    (x1 : Int32) (x2 : Int32) (V : Mem)  (h : wpX6_rest_0 (Cl UX d)   x1 x2 V P) : Cl UX (d + 1) mX6_rest [aR 0 0, aI x1, aI x2] V P :=
  cl_of [(0, aR 0 0), (1, aI x1), (2, aI x2)] (by decide) (fun _ => Nat.le_of_ble_eq_true rfl) (fun _ => rfl) (okX6_rest_0   x1 x2 V  h)
theorem dX6_tell_0 : decode cX6_tell 0 = .ok (.aload_n 0, 1) := by decide +kernel
theorem dX6_tell_1 : decode cX6_tell 1 = .ok (.getfield 67, 3) := by decide +kernel
theorem dX6_tell_4 : decode cX6_tell 4 = .ok (.bipush 60, 2) := by decide +kernel
theorem dX6_tell_6 : decode cX6_tell 6 = .ok (.if_icmp .lt 6, 3) := by decide +kernel
theorem dX6_tell_9 : decode cX6_tell 9 = .ok (.ldc 87, 2) := by decide +kernel
theorem dX6_tell_11 : decode cX6_tell 11 = .ok (.ireturn, 1) := by decide +kernel
theorem dX6_tell_12 : decode cX6_tell 12 = .ok (.aload_n 0, 1) := by decide +kernel
theorem dX6_tell_13 : decode cX6_tell 13 = .ok (.getfield 64, 3) := by decide +kernel
theorem dX6_tell_16 : decode cX6_tell 16 = .ok (.aload_n 0, 1) := by decide +kernel
theorem dX6_tell_17 : decode cX6_tell 17 = .ok (.getfield 67, 3) := by decide +kernel
theorem dX6_tell_20 : decode cX6_tell 20 = .ok (.iload_n 1, 1) := by decide +kernel
theorem dX6_tell_21 : decode cX6_tell 21 = .ok (.iastore, 1) := by decide +kernel
theorem dX6_tell_22 : decode cX6_tell 22 = .ok (.aload_n 0, 1) := by decide +kernel
theorem dX6_tell_23 : decode cX6_tell 23 = .ok (.dup, 1) := by decide +kernel
theorem dX6_tell_24 : decode cX6_tell 24 = .ok (.getfield 67, 3) := by decide +kernel
theorem dX6_tell_27 : decode cX6_tell 27 = .ok (.iconst 1, 1) := by decide +kernel
theorem dX6_tell_28 : decode cX6_tell 28 = .ok (.iadd, 1) := by decide +kernel
theorem dX6_tell_29 : decode cX6_tell 29 = .ok (.putfield 67, 3) := by decide +kernel
theorem dX6_tell_32 : decode cX6_tell 32 = .ok (.aload_n 0, 1) := by decide +kernel
theorem dX6_tell_33 : decode cX6_tell 33 = .ok (.getfield 67, 3) := by decide +kernel
theorem dX6_tell_36 : decode cX6_tell 36 = .ok (.ireturn, 1) := by decide +kernel
def wpX6_tell_0 (C : CT)   (x1 : Int32) (V : Mem) (Q : Option AV → Mem → Prop) : Prop :=
  (((V 0 0 11) < 60 → (∃ j_1 : Nat, (V 0 0 11) = nI j_1 ∧ j_1 < 60 ∧ (∀ V_2 : Mem, V_2 = mu V 21 0 j_1 x1 → (∀ V_3 : Mem, V_3 = mu V_2 0 0 11 ((V_2 0 0 11) + 1) → Q (some (aI (V_3 0 0 11))) V_3)))) ∧ (¬ (V 0 0 11) < 60 → Q (some (aI (-1000000003))) V))
set_option maxRecDepth 10000 in
theorem okX6_tell_0 {d : Nat} {P : Option AV → Mem → Prop}    (x1 : Int32)  (V : Mem)  (h : wpX6_tell_0 (Cl UX d)   x1 V P) : Gq (Kp (d + 1) mX6_tell UX P) UX cX6_tell 2 RX6 0 [(0, aR 0 0), (1, aI x1)] [] V := by
  unfold wpX6_tell_0 at h
  refine go_aload_n (q := 0) dX6_tell_0 rfl rfl ?_
  refine go_geti fg_X6_67 dX6_tell_1 (mX (n := 1) (by decide) rfl (by omega)) ?_
  refine go_bipush (v := 60) dX6_tell_4 (by decide) ?_
  refine go_icmp_lt (tgt := 12) dX6_tell_6 (by decide) (fun c_4 => ?_) (fun c_4 => ?_)
  · have h := h.1 c_4
    refine go_aload_n (q := 0) dX6_tell_12 rfl rfl ?_
    refine go_getr fg_X6_64 dX6_tell_13 (mX (n := 1) (by decide) rfl (by omega)) ?_
    refine go_aload_n (q := 0) dX6_tell_16 rfl rfl ?_
    refine go_geti fg_X6_67 dX6_tell_17 (mX (n := 1) (by decide) rfl (by omega)) ?_
    refine go_iload_n (q := 1) dX6_tell_20 rfl rfl ?_
    obtain ⟨j_1, e_j_1, l_j_1, h⟩ := h
    refine go_iast (r := 21) (n := 60) (j := j_1) rfl (by decide) dX6_tell_21 (mX (n := 1) (by decide) rfl (by omega)) e_j_1 l_j_1 ?_
    refine nmV (fun V_2 e_V_2 => ?_)
    have h := h V_2 e_V_2
    refine go_aload_n (q := 0) dX6_tell_22 rfl rfl ?_
    refine go_dup dX6_tell_23 rfl ?_
    refine go_geti fg_X6_67 dX6_tell_24 (mX (n := 1) (by decide) rfl (by omega)) ?_
    refine go_iconst (v := 1) dX6_tell_27 (by decide) ?_
    refine go_iadd dX6_tell_28 ?_
    refine go_puti fp_X6_67 dX6_tell_29 (mX (n := 1) (by decide) rfl (by omega)) ?_
    refine nmV (fun V_3 e_V_3 => ?_)
    have h := h V_3 e_V_3
    refine go_aload_n (q := 0) dX6_tell_32 rfl rfl ?_
    refine go_geti fg_X6_67 dX6_tell_33 (mX (n := 1) (by decide) rfl (by omega)) ?_
    exact go_iret rfl dX6_tell_36 h
  · have h := h.2 c_4
    refine go_ldc dX6_tell_9 ct_X6_87 ?_
    exact go_iret rfl dX6_tell_11 h
theorem clX6_tell {d : Nat} {P : Option AV → Mem → Prop}    (x1 : Int32) (V : Mem)  (h : wpX6_tell_0 (Cl UX d)   x1 V P) : Cl UX (d + 1) mX6_tell [aR 0 0, aI x1] V P :=
  cl_of [(0, aR 0 0), (1, aI x1)] (by decide) (fun _ => Nat.le_of_ble_eq_true rfl) (fun _ => rfl) (okX6_tell_0   x1 V  h)
theorem dX6_check_0 : decode cX6_check 0 = .ok (.aload_n 0, 1) := by decide +kernel
theorem dX6_check_1 : decode cX6_check 1 = .ok (.getfield 67, 3) := by decide +kernel
theorem dX6_check_4 : decode cX6_check 4 = .ok (.istore_n 2, 1) := by decide +kernel
theorem dX6_check_5 : decode cX6_check 5 = .ok (.aload_n 0, 1) := by decide +kernel
theorem dX6_check_6 : decode cX6_check 6 = .ok (.iconst 0, 1) := by decide +kernel
theorem dX6_check_7 : decode cX6_check 7 = .ok (.putfield 67, 3) := by decide +kernel
theorem dX6_check_10 : decode cX6_check 10 = .ok (.iload_n 1, 1) := by decide +kernel
theorem dX6_check_11 : decode cX6_check 11 = .ok (.iconst 1, 1) := by decide +kernel
theorem dX6_check_12 : decode cX6_check 12 = .ok (.bipush 30, 2) := by decide +kernel
theorem dX6_check_14 : decode cX6_check 14 = .ok (.invokestatic 79, 3) := by decide +kernel
theorem dX6_check_17 : decode cX6_check 17 = .ok (.ifCond .ne 6, 3) := by decide +kernel
theorem dX6_check_20 : decode cX6_check 20 = .ok (.ldc 83, 2) := by decide +kernel
theorem dX6_check_22 : decode cX6_check 22 = .ok (.ireturn, 1) := by decide +kernel
theorem dX6_check_23 : decode cX6_check 23 = .ok (.aload_n 0, 1) := by decide +kernel
theorem dX6_check_24 : decode cX6_check 24 = .ok (.getfield 31, 3) := by decide +kernel
theorem dX6_check_27 : decode cX6_check 27 = .ok (.ifCond .ne 7, 3) := by decide +kernel
theorem dX6_check_30 : decode cX6_check 30 = .ok (.ldc_w 330, 3) := by decide +kernel
theorem dX6_check_33 : decode cX6_check 33 = .ok (.ireturn, 1) := by decide +kernel
theorem dX6_check_34 : decode cX6_check 34 = .ok (.aload_n 0, 1) := by decide +kernel
theorem dX6_check_35 : decode cX6_check 35 = .ok (.getfield 28, 3) := by decide +kernel
theorem dX6_check_38 : decode cX6_check 38 = .ok (.aload_n 0, 1) := by decide +kernel
theorem dX6_check_39 : decode cX6_check 39 = .ok (.getfield 25, 3) := by decide +kernel
theorem dX6_check_42 : decode cX6_check 42 = .ok (.invokevirtual 203, 3) := by decide +kernel
theorem dX6_check_45 : decode cX6_check 45 = .ok (.iload_n 1, 1) := by decide +kernel
theorem dX6_check_46 : decode cX6_check 46 = .ok (.aload_n 0, 1) := by decide +kernel
theorem dX6_check_47 : decode cX6_check 47 = .ok (.getfield 28, 3) := by decide +kernel
theorem dX6_check_50 : decode cX6_check 50 = .ok (.invokevirtual 184, 3) := by decide +kernel
theorem dX6_check_53 : decode cX6_check 53 = .ok (.invokestatic 154, 3) := by decide +kernel
theorem dX6_check_56 : decode cX6_check 56 = .ok (.istore_n 3, 1) := by decide +kernel
theorem dX6_check_57 : decode cX6_check 57 = .ok (.iconst 0, 1) := by decide +kernel
theorem dX6_check_58 : decode cX6_check 58 = .ok (.istore 4, 2) := by decide +kernel
theorem dX6_check_60 : decode cX6_check 60 = .ok (.iload 4, 2) := by decide +kernel
theorem dX6_check_62 : decode cX6_check 62 = .ok (.iload_n 3, 1) := by decide +kernel
theorem dX6_check_63 : decode cX6_check 63 = .ok (.if_icmp .ge 71, 3) := by decide +kernel
theorem dX6_check_66 : decode cX6_check 66 = .ok (.aload_n 0, 1) := by decide +kernel
theorem dX6_check_67 : decode cX6_check 67 = .ok (.getfield 28, 3) := by decide +kernel
theorem dX6_check_70 : decode cX6_check 70 = .ok (.invokevirtual 212, 3) := by decide +kernel
theorem dX6_check_73 : decode cX6_check 73 = .ok (.pop, 1) := by decide +kernel
theorem dX6_check_74 : decode cX6_check 74 = .ok (.aload_n 0, 1) := by decide +kernel
theorem dX6_check_75 : decode cX6_check 75 = .ok (.iconst 2, 1) := by decide +kernel
theorem dX6_check_76 : decode cX6_check 76 = .ok (.iload 4, 2) := by decide +kernel
theorem dX6_check_78 : decode cX6_check 78 = .ok (.imul, 1) := by decide +kernel
theorem dX6_check_79 : decode cX6_check 79 = .ok (.iload_n 2, 1) := by decide +kernel
theorem dX6_check_80 : decode cX6_check 80 = .ok (.aload_n 0, 1) := by decide +kernel
theorem dX6_check_81 : decode cX6_check 81 = .ok (.getfield 28, 3) := by decide +kernel
theorem dX6_check_84 : decode cX6_check 84 = .ok (.invokevirtual 331, 3) := by decide +kernel
theorem dX6_check_87 : decode cX6_check 87 = .ok (.invokevirtual 334, 3) := by decide +kernel
theorem dX6_check_90 : decode cX6_check 90 = .ok (.ifCond .ne 10, 3) := by decide +kernel
theorem dX6_check_93 : decode cX6_check 93 = .ok (.iconst 1, 1) := by decide +kernel
theorem dX6_check_94 : decode cX6_check 94 = .ok (.iconst 2, 1) := by decide +kernel
theorem dX6_check_95 : decode cX6_check 95 = .ok (.iload 4, 2) := by decide +kernel
theorem dX6_check_97 : decode cX6_check 97 = .ok (.imul, 1) := by decide +kernel
theorem dX6_check_98 : decode cX6_check 98 = .ok (.iadd, 1) := by decide +kernel
theorem dX6_check_99 : decode cX6_check 99 = .ok (.ireturn, 1) := by decide +kernel
theorem dX6_check_100 : decode cX6_check 100 = .ok (.aload_n 0, 1) := by decide +kernel
theorem dX6_check_101 : decode cX6_check 101 = .ok (.iconst 2, 1) := by decide +kernel
theorem dX6_check_102 : decode cX6_check 102 = .ok (.iload 4, 2) := by decide +kernel
theorem dX6_check_104 : decode cX6_check 104 = .ok (.imul, 1) := by decide +kernel
theorem dX6_check_105 : decode cX6_check 105 = .ok (.iconst 1, 1) := by decide +kernel
theorem dX6_check_106 : decode cX6_check 106 = .ok (.iadd, 1) := by decide +kernel
theorem dX6_check_107 : decode cX6_check 107 = .ok (.iload_n 2, 1) := by decide +kernel
theorem dX6_check_108 : decode cX6_check 108 = .ok (.aload_n 0, 1) := by decide +kernel
theorem dX6_check_109 : decode cX6_check 109 = .ok (.getfield 28, 3) := by decide +kernel
theorem dX6_check_112 : decode cX6_check 112 = .ok (.getfield 151, 3) := by decide +kernel
theorem dX6_check_115 : decode cX6_check 115 = .ok (.invokevirtual 334, 3) := by decide +kernel
theorem dX6_check_118 : decode cX6_check 118 = .ok (.ifCond .ne 10, 3) := by decide +kernel
theorem dX6_check_121 : decode cX6_check 121 = .ok (.iconst 2, 1) := by decide +kernel
theorem dX6_check_122 : decode cX6_check 122 = .ok (.iconst 2, 1) := by decide +kernel
theorem dX6_check_123 : decode cX6_check 123 = .ok (.iload 4, 2) := by decide +kernel
theorem dX6_check_125 : decode cX6_check 125 = .ok (.imul, 1) := by decide +kernel
theorem dX6_check_126 : decode cX6_check 126 = .ok (.iadd, 1) := by decide +kernel
theorem dX6_check_127 : decode cX6_check 127 = .ok (.ireturn, 1) := by decide +kernel
theorem dX6_check_128 : decode cX6_check 128 = .ok (.iinc 4 1, 3) := by decide +kernel
theorem dX6_check_131 : decode cX6_check 131 = .ok (.goto (-71), 3) := by decide +kernel
theorem dX6_check_134 : decode cX6_check 134 = .ok (.iload_n 2, 1) := by decide +kernel
theorem dX6_check_135 : decode cX6_check 135 = .ok (.iconst 2, 1) := by decide +kernel
theorem dX6_check_136 : decode cX6_check 136 = .ok (.iload_n 3, 1) := by decide +kernel
theorem dX6_check_137 : decode cX6_check 137 = .ok (.imul, 1) := by decide +kernel
theorem dX6_check_138 : decode cX6_check 138 = .ok (.if_icmp .le 11, 3) := by decide +kernel
theorem dX6_check_141 : decode cX6_check 141 = .ok (.iconst 1, 1) := by decide +kernel
theorem dX6_check_142 : decode cX6_check 142 = .ok (.iconst 2, 1) := by decide +kernel
theorem dX6_check_143 : decode cX6_check 143 = .ok (.iload_n 3, 1) := by decide +kernel
theorem dX6_check_144 : decode cX6_check 144 = .ok (.imul, 1) := by decide +kernel
theorem dX6_check_145 : decode cX6_check 145 = .ok (.iadd, 1) := by decide +kernel
theorem dX6_check_146 : decode cX6_check 146 = .ok (.goto 4, 3) := by decide +kernel
theorem dX6_check_149 : decode cX6_check 149 = .ok (.iconst 0, 1) := by decide +kernel
theorem dX6_check_150 : decode cX6_check 150 = .ok (.ireturn, 1) := by decide +kernel
def wpX6_check_60 (C : CT) (I60 : Int32 → Int32 → Int32 → Int32 → Mem → Prop)  (x1 : Int32) (x2 : Int32) (x3 : Int32) (x4 : Int32) (V : Mem) (Q : Option AV → Mem → Prop) : Prop :=
  ((x3 ≤ x4 → ((x2 ≤ (2 * x3) → Q (some (aI 0)) V) ∧ (¬ x2 ≤ (2 * x3) → Q (some (aI (1 + (2 * x3)))) V))) ∧ (¬ x3 ≤ x4 → (cI C mX5_passHour [aR 2 2] V (fun x_3 V_2 => (cI C mX5_roofsWater [aR 2 2] V_2 (fun x_5 V_4 => (cI C mX6_isWaiting [aR 0 0, aI (2 * x4), aI x2, aI x_5] V_4 (fun x_7 V_6 => ((¬ x_7 = 0 → (cI C mX6_isWaiting [aR 0 0, aI ((2 * x4) + 1), aI x2, aI (V_6 2 2 10)] V_6 (fun x_9 V_8 => ((¬ x_9 = 0 → I60 x1 x2 x3 (x4 + 1) V_8) ∧ (x_9 = 0 → Q (some (aI (2 + (2 * x4)))) V_8))))) ∧ (x_7 = 0 → Q (some (aI (1 + (2 * x4)))) V_6))))))))))
set_option maxRecDepth 10000 in
theorem okX6_check_60 {d : Nat} {P : Option AV → Mem → Prop} {I60 : Int32 → Int32 → Int32 → Int32 → Mem → Prop}   (x1 : Int32) (x2 : Int32) (x3 : Int32) (x4 : Int32)  (V : Mem) (hk60 : ∀ (x1 : Int32) (x2 : Int32) (x3 : Int32) (x4 : Int32), ∀ (V : Mem), I60 x1 x2 x3 x4 V → Gq (Kp (d + 1) mX6_check UX P) UX cX6_check 5 RX6 60 [(0, aR 0 0), (1, aI x1), (2, aI x2), (3, aI x3), (4, aI x4)] [] V) (h : wpX6_check_60 (Cl UX d) I60  x1 x2 x3 x4 V P) : Gq (Kp (d + 1) mX6_check UX P) UX cX6_check 5 RX6 60 [(0, aR 0 0), (1, aI x1), (2, aI x2), (3, aI x3), (4, aI x4)] [] V := by
  unfold wpX6_check_60 at h
  refine go_iload (q := 4) dX6_check_60 rfl ?_
  refine go_iload_n (q := 3) dX6_check_62 rfl rfl ?_
  refine go_icmp_ge (tgt := 134) dX6_check_63 (by decide) (fun c_12 => ?_) (fun c_12 => ?_)
  · have h := h.1 c_12
    refine go_iload_n (q := 2) dX6_check_134 rfl rfl ?_
    refine go_iconst (v := 2) dX6_check_135 (by decide) ?_
    refine go_iload_n (q := 3) dX6_check_136 rfl rfl ?_
    refine go_imul dX6_check_137 ?_
    refine go_icmp_le (tgt := 149) dX6_check_138 (by decide) (fun c_1 => ?_) (fun c_1 => ?_)
    · have h := h.1 c_1
      refine go_iconst (v := 0) dX6_check_149 (by decide) ?_
      exact go_iret rfl dX6_check_150 h
    · have h := h.2 c_1
      refine go_iconst (v := 1) dX6_check_141 (by decide) ?_
      refine go_iconst (v := 2) dX6_check_142 (by decide) ?_
      refine go_iload_n (q := 3) dX6_check_143 rfl rfl ?_
      refine go_imul dX6_check_144 ?_
      refine go_iadd dX6_check_145 ?_
      refine go_goto (tgt := 150) dX6_check_146 (by decide) ?_
      exact go_iret rfl dX6_check_150 h
  · have h := h.2 c_12
    refine go_aload_n (q := 0) dX6_check_66 rfl rfl ?_
    refine go_getr fg_X6_28 dX6_check_67 (mX (n := 1) (by decide) rfl (by omega)) ?_
    refine go_cVI (As := []) (st := []) (r := 2) (i := 2) mv_X5_passHour dX6_check_70 ml_X6_212 (hr_Kp (Nat.le_refl d)) rfl rfl (mX (n := 3) (by decide) rfl (by omega)) rfl rfl (Nat.le_of_ble_eq_true rfl) h (fun x_3 V_2 h => ?_)
    refine go_pop dX6_check_73 rfl ?_
    refine go_aload_n (q := 0) dX6_check_74 rfl rfl ?_
    refine go_iconst (v := 2) dX6_check_75 (by decide) ?_
    refine go_iload (q := 4) dX6_check_76 rfl ?_
    refine go_imul dX6_check_78 ?_
    refine go_iload_n (q := 2) dX6_check_79 rfl rfl ?_
    refine go_aload_n (q := 0) dX6_check_80 rfl rfl ?_
    refine go_getr fg_X6_28 dX6_check_81 (mX (n := 1) (by decide) rfl (by omega)) ?_
    refine go_cVI (As := []) (st := [aI x2, aI (2 * x4), aR 0 0]) (r := 2) (i := 2) mv_X5_roofsWater dX6_check_84 ml_X6_331 (hr_Kp (Nat.le_refl d)) rfl rfl (mX (n := 3) (by decide) rfl (by omega)) rfl rfl (Nat.le_of_ble_eq_true rfl) h (fun x_5 V_4 h => ?_)
    refine go_cVI (As := [aI (2 * x4), aI x2, aI x_5]) (st := []) (r := 0) (i := 0) mv_X6_isWaiting dX6_check_87 ml_X6_334 (hr_Kp (Nat.le_refl d)) rfl rfl (mX (n := 1) (by decide) rfl (by omega)) rfl rfl (Nat.le_of_ble_eq_true rfl) h (fun x_7 V_6 h => ?_)
    refine go_if_ne (tgt := 100) dX6_check_90 (by decide) (fun c_11 => ?_) (fun c_11 => ?_)
    · have h := h.1 c_11
      refine go_aload_n (q := 0) dX6_check_100 rfl rfl ?_
      refine go_iconst (v := 2) dX6_check_101 (by decide) ?_
      refine go_iload (q := 4) dX6_check_102 rfl ?_
      refine go_imul dX6_check_104 ?_
      refine go_iconst (v := 1) dX6_check_105 (by decide) ?_
      refine go_iadd dX6_check_106 ?_
      refine go_iload_n (q := 2) dX6_check_107 rfl rfl ?_
      refine go_aload_n (q := 0) dX6_check_108 rfl rfl ?_
      refine go_getr fg_X6_28 dX6_check_109 (mX (n := 1) (by decide) rfl (by omega)) ?_
      refine go_geti fg_X6_151 dX6_check_112 (mX (n := 3) (by decide) rfl (by omega)) ?_
      refine go_cVI (As := [aI ((2 * x4) + 1), aI x2, aI (V_6 2 2 10)]) (st := []) (r := 0) (i := 0) mv_X6_isWaiting dX6_check_115 ml_X6_334 (hr_Kp (Nat.le_refl d)) rfl rfl (mX (n := 1) (by decide) rfl (by omega)) rfl rfl (Nat.le_of_ble_eq_true rfl) h (fun x_9 V_8 h => ?_)
      refine go_if_ne (tgt := 128) dX6_check_118 (by decide) (fun c_10 => ?_) (fun c_10 => ?_)
      · have h := h.1 c_10
        refine go_iinc (q := 4) (y := 1) (al1 := [(4, aI (x4 + 1)), (0, aR 0 0), (1, aI x1), (2, aI x2), (3, aI x3)]) dX6_check_128 rfl (by decide) (by decide) rfl ?_
        refine go_goto (tgt := 60) dX6_check_131 (by decide) ?_
        refine go_sub (al1 := [(0, aR 0 0), (1, aI x1), (2, aI x2), (3, aI x3), (4, aI (x4 + 1))]) [1, 2, 3, 4, 0] rfl ?_
        exact hk60 x1 x2 x3 (x4 + 1)  V_8 h
      · have h := h.2 c_10
        refine go_iconst (v := 2) dX6_check_121 (by decide) ?_
        refine go_iconst (v := 2) dX6_check_122 (by decide) ?_
        refine go_iload (q := 4) dX6_check_123 rfl ?_
        refine go_imul dX6_check_125 ?_
        refine go_iadd dX6_check_126 ?_
        exact go_iret rfl dX6_check_127 h
    · have h := h.2 c_11
      refine go_iconst (v := 1) dX6_check_93 (by decide) ?_
      refine go_iconst (v := 2) dX6_check_94 (by decide) ?_
      refine go_iload (q := 4) dX6_check_95 rfl ?_
      refine go_imul dX6_check_97 ?_
      refine go_iadd dX6_check_98 ?_
      exact go_iret rfl dX6_check_99 h
def wpX6_check_0 (C : CT) (I60 : Int32 → Int32 → Int32 → Int32 → Mem → Prop)  (x1 : Int32) (V : Mem) (Q : Option AV → Mem → Prop) : Prop :=
  (∀ z_1 : Int32, z_1 = (V 0 0 11) → (∀ V_2 : Mem, V_2 = mu V 0 0 11 0 → (cI C mX6_isWithin [aI x1, aI 1, aI 30] V_2 (fun x_4 V_3 => ((¬ x_4 = 0 → ((¬ (V_3 0 0 4) = 0 → (cV C mX5_become [aR 2 2, aR 2 1] V_3 (fun V_5 => (cI C mX5_hoursLeft [aR 2 2] V_5 (fun x_7 V_6 => (∀ z_8 : Int32, z_8 = (if x_7 < x1 then x_7 else x1) → I60 x1 z_1 z_8 0 V_6)))))) ∧ ((V_3 0 0 4) = 0 → Q (some (aI (-1000000002))) V_3))) ∧ (x_4 = 0 → Q (some (aI (-1000000001))) V_3))))))
set_option maxRecDepth 10000 in
theorem okX6_check_0 {d : Nat} {P : Option AV → Mem → Prop} {I60 : Int32 → Int32 → Int32 → Int32 → Mem → Prop}   (x1 : Int32)  (V : Mem) (hk60 : ∀ (x1 : Int32) (x2 : Int32) (x3 : Int32) (x4 : Int32), ∀ (V : Mem), I60 x1 x2 x3 x4 V → Gq (Kp (d + 1) mX6_check UX P) UX cX6_check 5 RX6 60 [(0, aR 0 0), (1, aI x1), (2, aI x2), (3, aI x3), (4, aI x4)] [] V) (h : wpX6_check_0 (Cl UX d) I60  x1 V P) : Gq (Kp (d + 1) mX6_check UX P) UX cX6_check 5 RX6 0 [(0, aR 0 0), (1, aI x1)] [] V := by
  unfold wpX6_check_0 at h
  refine go_aload_n (q := 0) dX6_check_0 rfl rfl ?_
  refine go_geti fg_X6_67 dX6_check_1 (mX (n := 1) (by decide) rfl (by omega)) ?_
  refine nmI (fun z_1 e_z_1 => ?_)
  have h := h z_1 e_z_1
  refine go_istore_n (al1 := [(2, aI z_1), (0, aR 0 0), (1, aI x1)]) dX6_check_4 rfl (by decide) rfl ?_
  refine go_aload_n (q := 1) dX6_check_5 rfl rfl ?_
  refine go_iconst (v := 0) dX6_check_6 (by decide) ?_
  refine go_puti fp_X6_67 dX6_check_7 (mX (n := 1) (by decide) rfl (by omega)) ?_
  refine nmV (fun V_2 e_V_2 => ?_)
  have h := h V_2 e_V_2
  refine go_iload_n (q := 2) dX6_check_10 rfl rfl ?_
  refine go_iconst (v := 1) dX6_check_11 (by decide) ?_
  refine go_bipush (v := 30) dX6_check_12 (by decide) ?_
  refine go_cSI (As := [aI x1, aI 1, aI 30]) (st := []) ms_X6_isWithin dX6_check_14 ml_X6_79 (hr_Kp (Nat.le_refl d)) rfl rfl (Nat.le_of_ble_eq_true rfl) h (fun x_4 V_3 h => ?_)
  refine go_if_ne (tgt := 23) dX6_check_17 (by decide) (fun c_10 => ?_) (fun c_10 => ?_)
  · have h := h.1 c_10
    refine go_aload_n (q := 1) dX6_check_23 rfl rfl ?_
    refine go_geti fg_X6_31 dX6_check_24 (mX (n := 1) (by decide) rfl (by omega)) ?_
    refine go_if_ne (tgt := 34) dX6_check_27 (by decide) (fun c_9 => ?_) (fun c_9 => ?_)
    · have h := h.1 c_9
      refine go_aload_n (q := 1) dX6_check_34 rfl rfl ?_
      refine go_getr fg_X6_28 dX6_check_35 (mX (n := 1) (by decide) rfl (by omega)) ?_
      refine go_aload_n (q := 1) dX6_check_38 rfl rfl ?_
      refine go_getr fg_X6_25 dX6_check_39 (mX (n := 1) (by decide) rfl (by omega)) ?_
      refine go_cVV (As := [aR 2 1]) (st := []) (r := 2) (i := 2) mv_X5_become dX6_check_42 ml_X6_203 (hr_Kp (Nat.le_refl d)) rfl rfl (mX (n := 3) (by decide) rfl (by omega)) rfl rfl (Nat.le_of_ble_eq_true rfl) h (fun V_5 h => ?_)
      refine go_iload_n (q := 2) dX6_check_45 rfl rfl ?_
      refine go_aload_n (q := 1) dX6_check_46 rfl rfl ?_
      refine go_getr fg_X6_28 dX6_check_47 (mX (n := 1) (by decide) rfl (by omega)) ?_
      refine go_cVI (As := []) (st := [aI x1]) (r := 2) (i := 2) mv_X5_hoursLeft dX6_check_50 ml_X6_184 (hr_Kp (Nat.le_refl d)) rfl rfl (mX (n := 3) (by decide) rfl (by omega)) rfl rfl (Nat.le_of_ble_eq_true rfl) h (fun x_7 V_6 h => ?_)
      refine go_mmin ml_X6_154 mt_min1 mt_ini mt_min2 (hr_Kp (Nat.zero_le d)) (Nat.le_of_ble_eq_true rfl) dX6_check_53 ?_
      refine nmI (fun z_8 e_z_8 => ?_)
      have h := h z_8 e_z_8
      refine go_istore_n (al1 := [(3, aI z_8), (2, aI z_1), (0, aR 0 0), (1, aI x1)]) dX6_check_56 rfl (by decide) rfl ?_
      refine go_iconst (v := 0) dX6_check_57 (by decide) ?_
      refine go_istore (al1 := [(4, aI 0), (3, aI z_8), (2, aI z_1), (0, aR 0 0), (1, aI x1)]) dX6_check_58 (by decide) rfl ?_
      refine go_sub (al1 := [(0, aR 0 0), (1, aI x1), (2, aI z_1), (3, aI z_8), (4, aI 0)]) [3, 4, 2, 1, 0] rfl ?_
      exact hk60 x1 z_1 z_8 0  V_6 h
    · have h := h.2 c_9
      refine go_ldcw dX6_check_30 ct_X6_330 ?_
      exact go_iret rfl dX6_check_33 h
  · have h := h.2 c_10
    refine go_ldc dX6_check_20 ct_X6_83 ?_
    exact go_iret rfl dX6_check_22 h
theorem clX6_check {d : Nat} {P : Option AV → Mem → Prop} {I60 : Int32 → Int32 → Int32 → Int32 → Mem → Prop}   (x1 : Int32) (V : Mem) (hk60 : ∀ (x1 : Int32) (x2 : Int32) (x3 : Int32) (x4 : Int32), ∀ (V : Mem), I60 x1 x2 x3 x4 V → Gq (Kp (d + 1) mX6_check UX P) UX cX6_check 5 RX6 60 [(0, aR 0 0), (1, aI x1), (2, aI x2), (3, aI x3), (4, aI x4)] [] V) (h : wpX6_check_0 (Cl UX d) I60  x1 V P) : Cl UX (d + 1) mX6_check [aR 0 0, aI x1] V P :=
  cl_of [(0, aR 0 0), (1, aI x1)] (by decide) (fun _ => Nat.le_of_ble_eq_true rfl) (fun _ => rfl) (okX6_check_0   x1 V hk60 h)
theorem dX6_keep_0 : decode cX6_keep 0 = .ok (.aload_n 0, 1) := by decide +kernel
theorem dX6_keep_1 : decode cX6_keep 1 = .ok (.getfield 25, 3) := by decide +kernel
theorem dX6_keep_4 : decode cX6_keep 4 = .ok (.aload_n 0, 1) := by decide +kernel
theorem dX6_keep_5 : decode cX6_keep 5 = .ok (.getfield 21, 3) := by decide +kernel
theorem dX6_keep_8 : decode cX6_keep 8 = .ok (.invokevirtual 203, 3) := by decide +kernel
theorem dX6_keep_11 : decode cX6_keep 11 = .ok (.aload_n 0, 1) := by decide +kernel
theorem dX6_keep_12 : decode cX6_keep 12 = .ok (.iconst 1, 1) := by decide +kernel
theorem dX6_keep_13 : decode cX6_keep 13 = .ok (.putfield 31, 3) := by decide +kernel
theorem dX6_keep_16 : decode cX6_keep 16 = .ok (.aload_n 0, 1) := by decide +kernel
theorem dX6_keep_17 : decode cX6_keep 17 = .ok (.getfield 25, 3) := by decide +kernel
theorem dX6_keep_20 : decode cX6_keep 20 = .ok (.getfield 84, 3) := by decide +kernel
theorem dX6_keep_23 : decode cX6_keep 23 = .ok (.ireturn, 1) := by decide +kernel
def wpX6_keep_0 (C : CT)    (V : Mem) (Q : Option AV → Mem → Prop) : Prop :=
  (cV C mX5_become [aR 2 1, aR 2 0] V (fun V_1 => (∀ V_2 : Mem, V_2 = mu V_1 0 0 4 1 → Q (some (aI (V_2 2 1 6))) V_2)))
set_option maxRecDepth 10000 in
theorem okX6_keep_0 {d : Nat} {P : Option AV → Mem → Prop}      (V : Mem)  (h : wpX6_keep_0 (Cl UX d)    V P) : Gq (Kp (d + 1) mX6_keep UX P) UX cX6_keep 1 RX6 0 [(0, aR 0 0)] [] V := by
  unfold wpX6_keep_0 at h
  refine go_aload_n (q := 0) dX6_keep_0 rfl rfl ?_
  refine go_getr fg_X6_25 dX6_keep_1 (mX (n := 1) (by decide) rfl (by omega)) ?_
  refine go_aload_n (q := 0) dX6_keep_4 rfl rfl ?_
  refine go_getr fg_X6_21 dX6_keep_5 (mX (n := 1) (by decide) rfl (by omega)) ?_
  refine go_cVV (As := [aR 2 0]) (st := []) (r := 2) (i := 1) mv_X5_become dX6_keep_8 ml_X6_203 (hr_Kp (Nat.le_refl d)) rfl rfl (mX (n := 3) (by decide) rfl (by omega)) rfl rfl (Nat.le_of_ble_eq_true rfl) h (fun V_1 h => ?_)
  refine go_aload_n (q := 0) dX6_keep_11 rfl rfl ?_
  refine go_iconst (v := 1) dX6_keep_12 (by decide) ?_
  refine go_putz fp_X6_31 dX6_keep_13 (mX (n := 1) (by decide) rfl (by omega)) (by decide) ?_
  refine nmV (fun V_2 e_V_2 => ?_)
  have h := h V_2 e_V_2
  refine go_aload_n (q := 0) dX6_keep_16 rfl rfl ?_
  refine go_getr fg_X6_25 dX6_keep_17 (mX (n := 1) (by decide) rfl (by omega)) ?_
  refine go_geti fg_X6_84 dX6_keep_20 (mX (n := 3) (by decide) rfl (by omega)) ?_
  exact go_iret rfl dX6_keep_23 h
theorem clX6_keep {d : Nat} {P : Option AV → Mem → Prop}     (V : Mem)  (h : wpX6_keep_0 (Cl UX d)    V P) : Cl UX (d + 1) mX6_keep [aR 0 0] V P :=
  cl_of [(0, aR 0 0)] (by decide) (fun _ => Nat.le_of_ble_eq_true rfl) (fun _ => rfl) (okX6_keep_0    V  h)
theorem dX6_back_0 : decode cX6_back 0 = .ok (.aload_n 0, 1) := by decide +kernel
theorem dX6_back_1 : decode cX6_back 1 = .ok (.getfield 31, 3) := by decide +kernel
theorem dX6_back_4 : decode cX6_back 4 = .ok (.ifCond .ne 7, 3) := by decide +kernel
theorem dX6_back_7 : decode cX6_back 7 = .ok (.ldc_w 330, 3) := by decide +kernel
theorem dX6_back_10 : decode cX6_back 10 = .ok (.ireturn, 1) := by decide +kernel
theorem dX6_back_11 : decode cX6_back 11 = .ok (.aload_n 0, 1) := by decide +kernel
theorem dX6_back_12 : decode cX6_back 12 = .ok (.getfield 21, 3) := by decide +kernel
theorem dX6_back_15 : decode cX6_back 15 = .ok (.aload_n 0, 1) := by decide +kernel
theorem dX6_back_16 : decode cX6_back 16 = .ok (.getfield 25, 3) := by decide +kernel
theorem dX6_back_19 : decode cX6_back 19 = .ok (.invokevirtual 203, 3) := by decide +kernel
theorem dX6_back_22 : decode cX6_back 22 = .ok (.aload_n 0, 1) := by decide +kernel
theorem dX6_back_23 : decode cX6_back 23 = .ok (.getfield 21, 3) := by decide +kernel
theorem dX6_back_26 : decode cX6_back 26 = .ok (.getfield 84, 3) := by decide +kernel
theorem dX6_back_29 : decode cX6_back 29 = .ok (.ireturn, 1) := by decide +kernel
def wpX6_back_0 (C : CT)    (V : Mem) (Q : Option AV → Mem → Prop) : Prop :=
  ((¬ (V 0 0 4) = 0 → (cV C mX5_become [aR 2 0, aR 2 1] V (fun V_1 => Q (some (aI (V_1 2 0 6))) V_1))) ∧ ((V 0 0 4) = 0 → Q (some (aI (-1000000002))) V))
set_option maxRecDepth 10000 in
theorem okX6_back_0 {d : Nat} {P : Option AV → Mem → Prop}      (V : Mem)  (h : wpX6_back_0 (Cl UX d)    V P) : Gq (Kp (d + 1) mX6_back UX P) UX cX6_back 1 RX6 0 [(0, aR 0 0)] [] V := by
  unfold wpX6_back_0 at h
  refine go_aload_n (q := 0) dX6_back_0 rfl rfl ?_
  refine go_geti fg_X6_31 dX6_back_1 (mX (n := 1) (by decide) rfl (by omega)) ?_
  refine go_if_ne (tgt := 11) dX6_back_4 (by decide) (fun c_2 => ?_) (fun c_2 => ?_)
  · have h := h.1 c_2
    refine go_aload_n (q := 0) dX6_back_11 rfl rfl ?_
    refine go_getr fg_X6_21 dX6_back_12 (mX (n := 1) (by decide) rfl (by omega)) ?_
    refine go_aload_n (q := 0) dX6_back_15 rfl rfl ?_
    refine go_getr fg_X6_25 dX6_back_16 (mX (n := 1) (by decide) rfl (by omega)) ?_
    refine go_cVV (As := [aR 2 1]) (st := []) (r := 2) (i := 0) mv_X5_become dX6_back_19 ml_X6_203 (hr_Kp (Nat.le_refl d)) rfl rfl (mX (n := 3) (by decide) rfl (by omega)) rfl rfl (Nat.le_of_ble_eq_true rfl) h (fun V_1 h => ?_)
    refine go_aload_n (q := 0) dX6_back_22 rfl rfl ?_
    refine go_getr fg_X6_21 dX6_back_23 (mX (n := 1) (by decide) rfl (by omega)) ?_
    refine go_geti fg_X6_84 dX6_back_26 (mX (n := 3) (by decide) rfl (by omega)) ?_
    exact go_iret rfl dX6_back_29 h
  · have h := h.2 c_2
    refine go_ldcw dX6_back_7 ct_X6_330 ?_
    exact go_iret rfl dX6_back_10 h
theorem clX6_back {d : Nat} {P : Option AV → Mem → Prop}     (V : Mem)  (h : wpX6_back_0 (Cl UX d)    V P) : Cl UX (d + 1) mX6_back [aR 0 0] V P :=
  cl_of [(0, aR 0 0)] (by decide) (fun _ => Nat.le_of_ble_eq_true rfl) (fun _ => rfl) (okX6_back_0    V  h)
theorem dX6_count_0 : decode cX6_count 0 = .ok (.iload_n 1, 1) := by decide +kernel
theorem dX6_count_1 : decode cX6_count 1 = .ok (.tableswitch 117 0 8 #[51, 59, 67, 75, 83, 91, 99, 104, 109], 51) := by decide +kernel
theorem dX6_count_52 : decode cX6_count 52 = .ok (.aload_n 0, 1) := by decide +kernel
theorem dX6_count_53 : decode cX6_count 53 = .ok (.getfield 21, 3) := by decide +kernel
theorem dX6_count_56 : decode cX6_count 56 = .ok (.getfield 84, 3) := by decide +kernel
theorem dX6_count_59 : decode cX6_count 59 = .ok (.ireturn, 1) := by decide +kernel
theorem dX6_count_60 : decode cX6_count 60 = .ok (.aload_n 0, 1) := by decide +kernel
theorem dX6_count_61 : decode cX6_count 61 = .ok (.getfield 21, 3) := by decide +kernel
theorem dX6_count_64 : decode cX6_count 64 = .ok (.getfield 337, 3) := by decide +kernel
theorem dX6_count_67 : decode cX6_count 67 = .ok (.ireturn, 1) := by decide +kernel
theorem dX6_count_68 : decode cX6_count 68 = .ok (.aload_n 0, 1) := by decide +kernel
theorem dX6_count_69 : decode cX6_count 69 = .ok (.getfield 21, 3) := by decide +kernel
theorem dX6_count_72 : decode cX6_count 72 = .ok (.getfield 181, 3) := by decide +kernel
theorem dX6_count_75 : decode cX6_count 75 = .ok (.ireturn, 1) := by decide +kernel
theorem dX6_count_76 : decode cX6_count 76 = .ok (.aload_n 0, 1) := by decide +kernel
theorem dX6_count_77 : decode cX6_count 77 = .ok (.getfield 21, 3) := by decide +kernel
theorem dX6_count_80 : decode cX6_count 80 = .ok (.invokevirtual 331, 3) := by decide +kernel
theorem dX6_count_83 : decode cX6_count 83 = .ok (.ireturn, 1) := by decide +kernel
theorem dX6_count_84 : decode cX6_count 84 = .ok (.aload_n 0, 1) := by decide +kernel
theorem dX6_count_85 : decode cX6_count 85 = .ok (.getfield 21, 3) := by decide +kernel
theorem dX6_count_88 : decode cX6_count 88 = .ok (.invokevirtual 340, 3) := by decide +kernel
theorem dX6_count_91 : decode cX6_count 91 = .ok (.ireturn, 1) := by decide +kernel
theorem dX6_count_92 : decode cX6_count 92 = .ok (.aload_n 0, 1) := by decide +kernel
theorem dX6_count_93 : decode cX6_count 93 = .ok (.getfield 21, 3) := by decide +kernel
theorem dX6_count_96 : decode cX6_count 96 = .ok (.getfield 248, 3) := by decide +kernel
theorem dX6_count_99 : decode cX6_count 99 = .ok (.ireturn, 1) := by decide +kernel
theorem dX6_count_100 : decode cX6_count 100 = .ok (.aload_n 0, 1) := by decide +kernel
theorem dX6_count_101 : decode cX6_count 101 = .ok (.getfield 67, 3) := by decide +kernel
theorem dX6_count_104 : decode cX6_count 104 = .ok (.ireturn, 1) := by decide +kernel
theorem dX6_count_105 : decode cX6_count 105 = .ok (.aload_n 0, 1) := by decide +kernel
theorem dX6_count_106 : decode cX6_count 106 = .ok (.getfield 39, 3) := by decide +kernel
theorem dX6_count_109 : decode cX6_count 109 = .ok (.ireturn, 1) := by decide +kernel
theorem dX6_count_110 : decode cX6_count 110 = .ok (.aload_n 0, 1) := by decide +kernel
theorem dX6_count_111 : decode cX6_count 111 = .ok (.getfield 21, 3) := by decide +kernel
theorem dX6_count_114 : decode cX6_count 114 = .ok (.getfield 168, 3) := by decide +kernel
theorem dX6_count_117 : decode cX6_count 117 = .ok (.ireturn, 1) := by decide +kernel
theorem dX6_count_118 : decode cX6_count 118 = .ok (.ldc 83, 2) := by decide +kernel
theorem dX6_count_120 : decode cX6_count 120 = .ok (.ireturn, 1) := by decide +kernel
def wpX6_count_0 (C : CT)   (x1 : Int32) (V : Mem) (Q : Option AV → Mem → Prop) : Prop :=
  ((x1 = 0 → Q (some (aI (V 2 0 6))) V) ∧ (x1 = 1 → Q (some (aI (V 2 0 8))) V) ∧ (x1 = 2 → Q (some (aI (V 2 0 7))) V) ∧ (x1 = 3 → (cI C mX5_roofsWater [aR 2 0] V (fun x_2 V_1 => Q (some (aI x_2)) V_1))) ∧ (x1 = 4 → (cI C mX5_roofsSnow [aR 2 0] V (fun x_4 V_3 => Q (some (aI x_4)) V_3))) ∧ (x1 = 5 → Q (some (aI (V 2 0 5))) V) ∧ (x1 = 6 → Q (some (aI (V 0 0 11))) V) ∧ (x1 = 7 → Q (some (aI (V 0 0 6))) V) ∧ (x1 = 8 → Q (some (aI (V 2 0 9))) V) ∧ (¬ x1 = 0 ∧ ¬ x1 = 1 ∧ ¬ x1 = 2 ∧ ¬ x1 = 3 ∧ ¬ x1 = 4 ∧ ¬ x1 = 5 ∧ ¬ x1 = 6 ∧ ¬ x1 = 7 ∧ ¬ x1 = 8 → Q (some (aI (-1000000001))) V))
set_option maxRecDepth 10000 in
theorem okX6_count_0 {d : Nat} {P : Option AV → Mem → Prop}    (x1 : Int32)  (V : Mem)  (h : wpX6_count_0 (Cl UX d)   x1 V P) : Gq (Kp (d + 1) mX6_count UX P) UX cX6_count 2 RX6 0 [(0, aR 0 0), (1, aI x1)] [] V := by
  unfold wpX6_count_0 at h
  refine go_iload_n (q := 1) dX6_count_0 rfl rfl ?_
  by_cases c1_0 : x1 = 0
  · have h := h.1 c1_0
    refine go_tabC (z := 0) (off := 51) (tgt := 52) c1_0 dX6_count_1 (by decide) (by decide) rfl (by decide) ?_
    refine go_aload_n (q := 0) dX6_count_52 rfl rfl ?_
    refine go_getr fg_X6_21 dX6_count_53 (mX (n := 1) (by decide) rfl (by omega)) ?_
    refine go_geti fg_X6_84 dX6_count_56 (mX (n := 3) (by decide) rfl (by omega)) ?_
    exact go_iret rfl dX6_count_59 h
  by_cases c1_1 : x1 = 1
  · have h := h.2.1 c1_1
    refine go_tabC (z := 1) (off := 59) (tgt := 60) c1_1 dX6_count_1 (by decide) (by decide) rfl (by decide) ?_
    refine go_aload_n (q := 0) dX6_count_60 rfl rfl ?_
    refine go_getr fg_X6_21 dX6_count_61 (mX (n := 1) (by decide) rfl (by omega)) ?_
    refine go_geti fg_X6_337 dX6_count_64 (mX (n := 3) (by decide) rfl (by omega)) ?_
    exact go_iret rfl dX6_count_67 h
  by_cases c1_2 : x1 = 2
  · have h := h.2.2.1 c1_2
    refine go_tabC (z := 2) (off := 67) (tgt := 68) c1_2 dX6_count_1 (by decide) (by decide) rfl (by decide) ?_
    refine go_aload_n (q := 0) dX6_count_68 rfl rfl ?_
    refine go_getr fg_X6_21 dX6_count_69 (mX (n := 1) (by decide) rfl (by omega)) ?_
    refine go_geti fg_X6_181 dX6_count_72 (mX (n := 3) (by decide) rfl (by omega)) ?_
    exact go_iret rfl dX6_count_75 h
  by_cases c1_3 : x1 = 3
  · have h := h.2.2.2.1 c1_3
    refine go_tabC (z := 3) (off := 75) (tgt := 76) c1_3 dX6_count_1 (by decide) (by decide) rfl (by decide) ?_
    refine go_aload_n (q := 0) dX6_count_76 rfl rfl ?_
    refine go_getr fg_X6_21 dX6_count_77 (mX (n := 1) (by decide) rfl (by omega)) ?_
    refine go_cVI (As := []) (st := []) (r := 2) (i := 0) mv_X5_roofsWater dX6_count_80 ml_X6_331 (hr_Kp (Nat.le_refl d)) rfl rfl (mX (n := 3) (by decide) rfl (by omega)) rfl rfl (Nat.le_of_ble_eq_true rfl) h (fun x_2 V_1 h => ?_)
    exact go_iret rfl dX6_count_83 h
  by_cases c1_4 : x1 = 4
  · have h := h.2.2.2.2.1 c1_4
    refine go_tabC (z := 4) (off := 83) (tgt := 84) c1_4 dX6_count_1 (by decide) (by decide) rfl (by decide) ?_
    refine go_aload_n (q := 0) dX6_count_84 rfl rfl ?_
    refine go_getr fg_X6_21 dX6_count_85 (mX (n := 1) (by decide) rfl (by omega)) ?_
    refine go_cVI (As := []) (st := []) (r := 2) (i := 0) mv_X5_roofsSnow dX6_count_88 ml_X6_340 (hr_Kp (Nat.le_refl d)) rfl rfl (mX (n := 3) (by decide) rfl (by omega)) rfl rfl (Nat.le_of_ble_eq_true rfl) h (fun x_4 V_3 h => ?_)
    exact go_iret rfl dX6_count_91 h
  by_cases c1_5 : x1 = 5
  · have h := h.2.2.2.2.2.1 c1_5
    refine go_tabC (z := 5) (off := 91) (tgt := 92) c1_5 dX6_count_1 (by decide) (by decide) rfl (by decide) ?_
    refine go_aload_n (q := 0) dX6_count_92 rfl rfl ?_
    refine go_getr fg_X6_21 dX6_count_93 (mX (n := 1) (by decide) rfl (by omega)) ?_
    refine go_geti fg_X6_248 dX6_count_96 (mX (n := 3) (by decide) rfl (by omega)) ?_
    exact go_iret rfl dX6_count_99 h
  by_cases c1_6 : x1 = 6
  · have h := h.2.2.2.2.2.2.1 c1_6
    refine go_tabC (z := 6) (off := 99) (tgt := 100) c1_6 dX6_count_1 (by decide) (by decide) rfl (by decide) ?_
    refine go_aload_n (q := 0) dX6_count_100 rfl rfl ?_
    refine go_geti fg_X6_67 dX6_count_101 (mX (n := 1) (by decide) rfl (by omega)) ?_
    exact go_iret rfl dX6_count_104 h
  by_cases c1_7 : x1 = 7
  · have h := h.2.2.2.2.2.2.2.1 c1_7
    refine go_tabC (z := 7) (off := 104) (tgt := 105) c1_7 dX6_count_1 (by decide) (by decide) rfl (by decide) ?_
    refine go_aload_n (q := 0) dX6_count_105 rfl rfl ?_
    refine go_geti fg_X6_39 dX6_count_106 (mX (n := 1) (by decide) rfl (by omega)) ?_
    exact go_iret rfl dX6_count_109 h
  by_cases c1_8 : x1 = 8
  · have h := h.2.2.2.2.2.2.2.2.1 c1_8
    refine go_tabC (z := 8) (off := 109) (tgt := 110) c1_8 dX6_count_1 (by decide) (by decide) rfl (by decide) ?_
    refine go_aload_n (q := 0) dX6_count_110 rfl rfl ?_
    refine go_getr fg_X6_21 dX6_count_111 (mX (n := 1) (by decide) rfl (by omega)) ?_
    refine go_geti fg_X6_168 dX6_count_114 (mX (n := 3) (by decide) rfl (by omega)) ?_
    exact go_iret rfl dX6_count_117 h
  have h := h.2.2.2.2.2.2.2.2.2 ⟨c1_0, c1_1, c1_2, c1_3, c1_4, c1_5, c1_6, c1_7, c1_8⟩
  have q_c1_0 := lv_neT c1_0 (show (0 : Int32).toInt = 0 from rfl)
  have q_c1_1 := lv_neT c1_1 (show (1 : Int32).toInt = 1 from rfl)
  have q_c1_2 := lv_neT c1_2 (show (2 : Int32).toInt = 2 from rfl)
  have q_c1_3 := lv_neT c1_3 (show (3 : Int32).toInt = 3 from rfl)
  have q_c1_4 := lv_neT c1_4 (show (4 : Int32).toInt = 4 from rfl)
  have q_c1_5 := lv_neT c1_5 (show (5 : Int32).toInt = 5 from rfl)
  have q_c1_6 := lv_neT c1_6 (show (6 : Int32).toInt = 6 from rfl)
  have q_c1_7 := lv_neT c1_7 (show (7 : Int32).toInt = 7 from rfl)
  have q_c1_8 := lv_neT c1_8 (show (8 : Int32).toInt = 8 from rfl)
  refine go_tabOut (tgt := 118) dX6_count_1 (by omega) (by decide) ?_
  refine go_ldc dX6_count_118 ct_X6_83 ?_
  exact go_iret rfl dX6_count_120 h
theorem clX6_count {d : Nat} {P : Option AV → Mem → Prop}    (x1 : Int32) (V : Mem)  (h : wpX6_count_0 (Cl UX d)   x1 V P) : Cl UX (d + 1) mX6_count [aR 0 0, aI x1] V P :=
  cl_of [(0, aR 0 0), (1, aI x1)] (by decide) (fun _ => Nat.le_of_ble_eq_true rfl) (fun _ => rfl) (okX6_count_0   x1 V  h)
theorem dX6_isWithin_0 : decode cX6_isWithin 0 = .ok (.iload_n 0, 1) := by decide +kernel
theorem dX6_isWithin_1 : decode cX6_isWithin 1 = .ok (.iload_n 1, 1) := by decide +kernel
theorem dX6_isWithin_2 : decode cX6_isWithin 2 = .ok (.if_icmp .lt 12, 3) := by decide +kernel
theorem dX6_isWithin_5 : decode cX6_isWithin 5 = .ok (.iload_n 0, 1) := by decide +kernel
theorem dX6_isWithin_6 : decode cX6_isWithin 6 = .ok (.iload_n 2, 1) := by decide +kernel
theorem dX6_isWithin_7 : decode cX6_isWithin 7 = .ok (.if_icmp .gt 7, 3) := by decide +kernel
theorem dX6_isWithin_10 : decode cX6_isWithin 10 = .ok (.iconst 1, 1) := by decide +kernel
theorem dX6_isWithin_11 : decode cX6_isWithin 11 = .ok (.goto 4, 3) := by decide +kernel
theorem dX6_isWithin_14 : decode cX6_isWithin 14 = .ok (.iconst 0, 1) := by decide +kernel
theorem dX6_isWithin_15 : decode cX6_isWithin 15 = .ok (.ireturn, 1) := by decide +kernel
def wpX6_isWithin_0 (C : CT)   (x0 : Int32) (x1 : Int32) (x2 : Int32) (V : Mem) (Q : Option AV → Mem → Prop) : Prop :=
  ((x0 < x1 → Q (some (aI 0)) V) ∧ (¬ x0 < x1 → ((x2 < x0 → Q (some (aI 0)) V) ∧ (¬ x2 < x0 → Q (some (aI 1)) V))))
set_option maxRecDepth 10000 in
theorem okX6_isWithin_0 {d : Nat} {P : Option AV → Mem → Prop}    (x0 : Int32) (x1 : Int32) (x2 : Int32)  (V : Mem)  (h : wpX6_isWithin_0 (Cl UX d)   x0 x1 x2 V P) : Gq (Kp (d + 1) mX6_isWithin UX P) UX cX6_isWithin 3 RX6 0 [(0, aI x0), (1, aI x1), (2, aI x2)] [] V := by
  unfold wpX6_isWithin_0 at h
  refine go_iload_n (q := 0) dX6_isWithin_0 rfl rfl ?_
  refine go_iload_n (q := 1) dX6_isWithin_1 rfl rfl ?_
  refine go_icmp_lt (tgt := 14) dX6_isWithin_2 (by decide) (fun c_2 => ?_) (fun c_2 => ?_)
  · have h := h.1 c_2
    refine go_iconst (v := 0) dX6_isWithin_14 (by decide) ?_
    exact go_bret rfl dX6_isWithin_15 (by decide) h
  · have h := h.2 c_2
    refine go_iload_n (q := 0) dX6_isWithin_5 rfl rfl ?_
    refine go_iload_n (q := 2) dX6_isWithin_6 rfl rfl ?_
    refine go_icmp_gt (tgt := 14) dX6_isWithin_7 (by decide) (fun c_1 => ?_) (fun c_1 => ?_)
    · have h := h.1 c_1
      refine go_iconst (v := 0) dX6_isWithin_14 (by decide) ?_
      exact go_bret rfl dX6_isWithin_15 (by decide) h
    · have h := h.2 c_1
      refine go_iconst (v := 1) dX6_isWithin_10 (by decide) ?_
      refine go_goto (tgt := 15) dX6_isWithin_11 (by decide) ?_
      exact go_bret rfl dX6_isWithin_15 (by decide) h
theorem clX6_isWithin {d : Nat} {P : Option AV → Mem → Prop}    (x0 : Int32) (x1 : Int32) (x2 : Int32) (V : Mem)  (h : wpX6_isWithin_0 (Cl UX d)   x0 x1 x2 V P) : Cl UX (d + 1) mX6_isWithin [aI x0, aI x1, aI x2] V P :=
  cl_of [(0, aI x0), (1, aI x1), (2, aI x2)] (by decide) (fun _ => Nat.le_of_ble_eq_true rfl) (fun _ => rfl) (okX6_isWithin_0   x0 x1 x2 V  h)
theorem dX6_isKind_0 : decode cX6_isKind 0 = .ok (.iload_n 0, 1) := by decide +kernel
theorem dX6_isKind_1 : decode cX6_isKind 1 = .ok (.iconst 0, 1) := by decide +kernel
theorem dX6_isKind_2 : decode cX6_isKind 2 = .ok (.iconst 5, 1) := by decide +kernel
theorem dX6_isKind_3 : decode cX6_isKind 3 = .ok (.invokestatic 79, 3) := by decide +kernel
theorem dX6_isKind_6 : decode cX6_isKind 6 = .ok (.ireturn, 1) := by decide +kernel
def wpX6_isKind_0 (C : CT)   (x0 : Int32) (V : Mem) (Q : Option AV → Mem → Prop) : Prop :=
  (cI C mX6_isWithin [aI x0, aI 0, aI 5] V (fun x_2 V_1 => ((x_2 = 0 ∨ x_2 = 1) ∧ Q (some (aI x_2)) V_1)))
set_option maxRecDepth 10000 in
theorem okX6_isKind_0 {d : Nat} {P : Option AV → Mem → Prop}    (x0 : Int32)  (V : Mem)  (h : wpX6_isKind_0 (Cl UX d)   x0 V P) : Gq (Kp (d + 1) mX6_isKind UX P) UX cX6_isKind 1 RX6 0 [(0, aI x0)] [] V := by
  unfold wpX6_isKind_0 at h
  refine go_iload_n (q := 0) dX6_isKind_0 rfl rfl ?_
  refine go_iconst (v := 0) dX6_isKind_1 (by decide) ?_
  refine go_iconst (v := 5) dX6_isKind_2 (by decide) ?_
  refine go_cSI (As := [aI x0, aI 0, aI 5]) (st := []) ms_X6_isWithin dX6_isKind_3 ml_X6_79 (hr_Kp (Nat.le_refl d)) rfl rfl (Nat.le_of_ble_eq_true rfl) h (fun x_2 V_1 h => ?_)
  exact go_bret rfl dX6_isKind_6 h.1 h.2
theorem clX6_isKind {d : Nat} {P : Option AV → Mem → Prop}    (x0 : Int32) (V : Mem)  (h : wpX6_isKind_0 (Cl UX d)   x0 V P) : Cl UX (d + 1) mX6_isKind [aI x0] V P :=
  cl_of [(0, aI x0)] (by decide) (fun _ => Nat.le_of_ble_eq_true rfl) (fun _ => rfl) (okX6_isKind_0   x0 V  h)
theorem dX6_isRoof_0 : decode cX6_isRoof 0 = .ok (.iload_n 1, 1) := by decide +kernel
theorem dX6_isRoof_1 : decode cX6_isRoof 1 = .ok (.iconst 0, 1) := by decide +kernel
theorem dX6_isRoof_2 : decode cX6_isRoof 2 = .ok (.aload_n 0, 1) := by decide +kernel
theorem dX6_isRoof_3 : decode cX6_isRoof 3 = .ok (.getfield 21, 3) := by decide +kernel
theorem dX6_isRoof_6 : decode cX6_isRoof 6 = .ok (.getfield 84, 3) := by decide +kernel
theorem dX6_isRoof_9 : decode cX6_isRoof 9 = .ok (.iconst 1, 1) := by decide +kernel
theorem dX6_isRoof_10 : decode cX6_isRoof 10 = .ok (.isub, 1) := by decide +kernel
theorem dX6_isRoof_11 : decode cX6_isRoof 11 = .ok (.invokestatic 79, 3) := by decide +kernel
theorem dX6_isRoof_14 : decode cX6_isRoof 14 = .ok (.ireturn, 1) := by decide +kernel
def wpX6_isRoof_0 (C : CT)   (x1 : Int32) (V : Mem) (Q : Option AV → Mem → Prop) : Prop :=
  (cI C mX6_isWithin [aI x1, aI 0, aI ((V 2 0 6) - 1)] V (fun x_2 V_1 => ((x_2 = 0 ∨ x_2 = 1) ∧ Q (some (aI x_2)) V_1)))
set_option maxRecDepth 10000 in
theorem okX6_isRoof_0 {d : Nat} {P : Option AV → Mem → Prop}    (x1 : Int32)  (V : Mem)  (h : wpX6_isRoof_0 (Cl UX d)   x1 V P) : Gq (Kp (d + 1) mX6_isRoof UX P) UX cX6_isRoof 2 RX6 0 [(0, aR 0 0), (1, aI x1)] [] V := by
  unfold wpX6_isRoof_0 at h
  refine go_iload_n (q := 1) dX6_isRoof_0 rfl rfl ?_
  refine go_iconst (v := 0) dX6_isRoof_1 (by decide) ?_
  refine go_aload_n (q := 0) dX6_isRoof_2 rfl rfl ?_
  refine go_getr fg_X6_21 dX6_isRoof_3 (mX (n := 1) (by decide) rfl (by omega)) ?_
  refine go_geti fg_X6_84 dX6_isRoof_6 (mX (n := 3) (by decide) rfl (by omega)) ?_
  refine go_iconst (v := 1) dX6_isRoof_9 (by decide) ?_
  refine go_isub dX6_isRoof_10 ?_
  refine go_cSI (As := [aI x1, aI 0, aI ((V 2 0 6) - 1)]) (st := []) ms_X6_isWithin dX6_isRoof_11 ml_X6_79 (hr_Kp (Nat.le_refl d)) rfl rfl (Nat.le_of_ble_eq_true rfl) h (fun x_2 V_1 h => ?_)
  exact go_bret rfl dX6_isRoof_14 h.1 h.2
theorem clX6_isRoof {d : Nat} {P : Option AV → Mem → Prop}    (x1 : Int32) (V : Mem)  (h : wpX6_isRoof_0 (Cl UX d)   x1 V P) : Cl UX (d + 1) mX6_isRoof [aR 0 0, aI x1] V P :=
  cl_of [(0, aR 0 0), (1, aI x1)] (by decide) (fun _ => Nat.le_of_ble_eq_true rfl) (fun _ => rfl) (okX6_isRoof_0   x1 V  h)
theorem dX6_isSheet_0 : decode cX6_isSheet 0 = .ok (.iload_n 0, 1) := by decide +kernel
theorem dX6_isSheet_1 : decode cX6_isSheet 1 = .ok (.iconst 0, 1) := by decide +kernel
theorem dX6_isSheet_2 : decode cX6_isSheet 2 = .ok (.iconst 3, 1) := by decide +kernel
theorem dX6_isSheet_3 : decode cX6_isSheet 3 = .ok (.invokestatic 79, 3) := by decide +kernel
theorem dX6_isSheet_6 : decode cX6_isSheet 6 = .ok (.ireturn, 1) := by decide +kernel
def wpX6_isSheet_0 (C : CT)   (x0 : Int32) (V : Mem) (Q : Option AV → Mem → Prop) : Prop :=
  (cI C mX6_isWithin [aI x0, aI 0, aI 3] V (fun x_2 V_1 => ((x_2 = 0 ∨ x_2 = 1) ∧ Q (some (aI x_2)) V_1)))
set_option maxRecDepth 10000 in
theorem okX6_isSheet_0 {d : Nat} {P : Option AV → Mem → Prop}    (x0 : Int32)  (V : Mem)  (h : wpX6_isSheet_0 (Cl UX d)   x0 V P) : Gq (Kp (d + 1) mX6_isSheet UX P) UX cX6_isSheet 1 RX6 0 [(0, aI x0)] [] V := by
  unfold wpX6_isSheet_0 at h
  refine go_iload_n (q := 0) dX6_isSheet_0 rfl rfl ?_
  refine go_iconst (v := 0) dX6_isSheet_1 (by decide) ?_
  refine go_iconst (v := 3) dX6_isSheet_2 (by decide) ?_
  refine go_cSI (As := [aI x0, aI 0, aI 3]) (st := []) ms_X6_isWithin dX6_isSheet_3 ml_X6_79 (hr_Kp (Nat.le_refl d)) rfl rfl (Nat.le_of_ble_eq_true rfl) h (fun x_2 V_1 h => ?_)
  exact go_bret rfl dX6_isSheet_6 h.1 h.2
theorem clX6_isSheet {d : Nat} {P : Option AV → Mem → Prop}    (x0 : Int32) (V : Mem)  (h : wpX6_isSheet_0 (Cl UX d)   x0 V P) : Cl UX (d + 1) mX6_isSheet [aI x0] V P :=
  cl_of [(0, aI x0)] (by decide) (fun _ => Nat.le_of_ble_eq_true rfl) (fun _ => rfl) (okX6_isSheet_0   x0 V  h)
theorem dX6_isSlot_0 : decode cX6_isSlot 0 = .ok (.iload_n 0, 1) := by decide +kernel
theorem dX6_isSlot_1 : decode cX6_isSlot 1 = .ok (.iconst 0, 1) := by decide +kernel
theorem dX6_isSlot_2 : decode cX6_isSlot 2 = .ok (.iconst 4, 1) := by decide +kernel
theorem dX6_isSlot_3 : decode cX6_isSlot 3 = .ok (.invokestatic 79, 3) := by decide +kernel
theorem dX6_isSlot_6 : decode cX6_isSlot 6 = .ok (.ireturn, 1) := by decide +kernel
def wpX6_isSlot_0 (C : CT)   (x0 : Int32) (V : Mem) (Q : Option AV → Mem → Prop) : Prop :=
  (cI C mX6_isWithin [aI x0, aI 0, aI 4] V (fun x_2 V_1 => ((x_2 = 0 ∨ x_2 = 1) ∧ Q (some (aI x_2)) V_1)))
set_option maxRecDepth 10000 in
theorem okX6_isSlot_0 {d : Nat} {P : Option AV → Mem → Prop}    (x0 : Int32)  (V : Mem)  (h : wpX6_isSlot_0 (Cl UX d)   x0 V P) : Gq (Kp (d + 1) mX6_isSlot UX P) UX cX6_isSlot 1 RX6 0 [(0, aI x0)] [] V := by
  unfold wpX6_isSlot_0 at h
  refine go_iload_n (q := 0) dX6_isSlot_0 rfl rfl ?_
  refine go_iconst (v := 0) dX6_isSlot_1 (by decide) ?_
  refine go_iconst (v := 4) dX6_isSlot_2 (by decide) ?_
  refine go_cSI (As := [aI x0, aI 0, aI 4]) (st := []) ms_X6_isWithin dX6_isSlot_3 ml_X6_79 (hr_Kp (Nat.le_refl d)) rfl rfl (Nat.le_of_ble_eq_true rfl) h (fun x_2 V_1 h => ?_)
  exact go_bret rfl dX6_isSlot_6 h.1 h.2
theorem clX6_isSlot {d : Nat} {P : Option AV → Mem → Prop}    (x0 : Int32) (V : Mem)  (h : wpX6_isSlot_0 (Cl UX d)   x0 V P) : Cl UX (d + 1) mX6_isSlot [aI x0] V P :=
  cl_of [(0, aI x0)] (by decide) (fun _ => Nat.le_of_ble_eq_true rfl) (fun _ => rfl) (okX6_isSlot_0   x0 V  h)
theorem dX6_changeSize_0 : decode cX6_changeSize 0 = .ok (.aload_n 0, 1) := by decide +kernel
theorem dX6_changeSize_1 : decode cX6_changeSize 1 = .ok (.getfield 104, 3) := by decide +kernel
theorem dX6_changeSize_4 : decode cX6_changeSize 4 = .ok (.istore_n 2, 1) := by decide +kernel
theorem dX6_changeSize_5 : decode cX6_changeSize 5 = .ok (.aload_n 0, 1) := by decide +kernel
theorem dX6_changeSize_6 : decode cX6_changeSize 6 = .ok (.iload_n 1, 1) := by decide +kernel
theorem dX6_changeSize_7 : decode cX6_changeSize 7 = .ok (.putfield 104, 3) := by decide +kernel
theorem dX6_changeSize_10 : decode cX6_changeSize 10 = .ok (.iload_n 2, 1) := by decide +kernel
theorem dX6_changeSize_11 : decode cX6_changeSize 11 = .ok (.ireturn, 1) := by decide +kernel
def wpX6_changeSize_0 (C : CT)  (n0 : Nat) (x1 : Int32) (V : Mem) (Q : Option AV → Mem → Prop) : Prop :=
  (∀ z_1 : Int32, z_1 = (V 3 n0 1) → (∀ V_2 : Mem, V_2 = mu V 3 n0 1 x1 → Q (some (aI z_1)) V_2))
set_option maxRecDepth 10000 in
theorem okX6_changeSize_0 {d : Nat} {P : Option AV → Mem → Prop}  (n0 : Nat) (h_n0 : n0 < 29) (x1 : Int32)  (V : Mem)  (h : wpX6_changeSize_0 (Cl UX d)  n0 x1 V P) : Gq (Kp (d + 1) mX6_changeSize UX P) UX cX6_changeSize 3 RX6 0 [(0, aR 3 n0), (1, aI x1)] [] V := by
  unfold wpX6_changeSize_0 at h
  refine go_aload_n (q := 0) dX6_changeSize_0 rfl rfl ?_
  refine go_geti fg_X6_104 dX6_changeSize_1 (mX (n := 29) (by decide) rfl (by omega)) ?_
  refine nmI (fun z_1 e_z_1 => ?_)
  have h := h z_1 e_z_1
  refine go_istore_n (al1 := [(2, aI z_1), (0, aR 3 n0), (1, aI x1)]) dX6_changeSize_4 rfl (by decide) rfl ?_
  refine go_aload_n (q := 1) dX6_changeSize_5 rfl rfl ?_
  refine go_iload_n (q := 2) dX6_changeSize_6 rfl rfl ?_
  refine go_puti fp_X6_104 dX6_changeSize_7 (mX (n := 29) (by decide) rfl (by omega)) ?_
  refine nmV (fun V_2 e_V_2 => ?_)
  have h := h V_2 e_V_2
  refine go_iload_n (q := 0) dX6_changeSize_10 rfl rfl ?_
  exact go_iret rfl dX6_changeSize_11 h
theorem clX6_changeSize {d : Nat} {P : Option AV → Mem → Prop}  (n0 : Nat) (h_n0 : n0 < 29) (x1 : Int32) (V : Mem)  (h : wpX6_changeSize_0 (Cl UX d)  n0 x1 V P) : Cl UX (d + 1) mX6_changeSize [aR 3 n0, aI x1] V P :=
  cl_of [(0, aR 3 n0), (1, aI x1)] (by decide) (fun _ => Nat.le_of_ble_eq_true rfl) (fun _ => rfl) (okX6_changeSize_0 n0 h_n0 x1 V  h)
theorem dX6_changeHeat_0 : decode cX6_changeHeat 0 = .ok (.aload_n 0, 1) := by decide +kernel
theorem dX6_changeHeat_1 : decode cX6_changeHeat 1 = .ok (.getfield 107, 3) := by decide +kernel
theorem dX6_changeHeat_4 : decode cX6_changeHeat 4 = .ok (.istore_n 2, 1) := by decide +kernel
theorem dX6_changeHeat_5 : decode cX6_changeHeat 5 = .ok (.aload_n 0, 1) := by decide +kernel
theorem dX6_changeHeat_6 : decode cX6_changeHeat 6 = .ok (.iload_n 1, 1) := by decide +kernel
theorem dX6_changeHeat_7 : decode cX6_changeHeat 7 = .ok (.putfield 107, 3) := by decide +kernel
theorem dX6_changeHeat_10 : decode cX6_changeHeat 10 = .ok (.iload_n 2, 1) := by decide +kernel
theorem dX6_changeHeat_11 : decode cX6_changeHeat 11 = .ok (.ireturn, 1) := by decide +kernel
def wpX6_changeHeat_0 (C : CT)  (n0 : Nat) (x1 : Int32) (V : Mem) (Q : Option AV → Mem → Prop) : Prop :=
  (∀ z_1 : Int32, z_1 = (V 3 n0 2) → (∀ V_2 : Mem, V_2 = mu V 3 n0 2 x1 → Q (some (aI z_1)) V_2))
set_option maxRecDepth 10000 in
theorem okX6_changeHeat_0 {d : Nat} {P : Option AV → Mem → Prop}  (n0 : Nat) (h_n0 : n0 < 29) (x1 : Int32)  (V : Mem)  (h : wpX6_changeHeat_0 (Cl UX d)  n0 x1 V P) : Gq (Kp (d + 1) mX6_changeHeat UX P) UX cX6_changeHeat 3 RX6 0 [(0, aR 3 n0), (1, aI x1)] [] V := by
  unfold wpX6_changeHeat_0 at h
  refine go_aload_n (q := 0) dX6_changeHeat_0 rfl rfl ?_
  refine go_geti fg_X6_107 dX6_changeHeat_1 (mX (n := 29) (by decide) rfl (by omega)) ?_
  refine nmI (fun z_1 e_z_1 => ?_)
  have h := h z_1 e_z_1
  refine go_istore_n (al1 := [(2, aI z_1), (0, aR 3 n0), (1, aI x1)]) dX6_changeHeat_4 rfl (by decide) rfl ?_
  refine go_aload_n (q := 1) dX6_changeHeat_5 rfl rfl ?_
  refine go_iload_n (q := 2) dX6_changeHeat_6 rfl rfl ?_
  refine go_puti fp_X6_107 dX6_changeHeat_7 (mX (n := 29) (by decide) rfl (by omega)) ?_
  refine nmV (fun V_2 e_V_2 => ?_)
  have h := h V_2 e_V_2
  refine go_iload_n (q := 0) dX6_changeHeat_10 rfl rfl ?_
  exact go_iret rfl dX6_changeHeat_11 h
theorem clX6_changeHeat {d : Nat} {P : Option AV → Mem → Prop}  (n0 : Nat) (h_n0 : n0 < 29) (x1 : Int32) (V : Mem)  (h : wpX6_changeHeat_0 (Cl UX d)  n0 x1 V P) : Cl UX (d + 1) mX6_changeHeat [aR 3 n0, aI x1] V P :=
  cl_of [(0, aR 3 n0), (1, aI x1)] (by decide) (fun _ => Nat.le_of_ble_eq_true rfl) (fun _ => rfl) (okX6_changeHeat_0 n0 h_n0 x1 V  h)
theorem dX6_changeRoom_0 : decode cX6_changeRoom 0 = .ok (.aload_n 1, 1) := by decide +kernel
theorem dX6_changeRoom_1 : decode cX6_changeRoom 1 = .ok (.getfield 110, 3) := by decide +kernel
theorem dX6_changeRoom_4 : decode cX6_changeRoom 4 = .ok (.istore_n 3, 1) := by decide +kernel
theorem dX6_changeRoom_5 : decode cX6_changeRoom 5 = .ok (.aload_n 1, 1) := by decide +kernel
theorem dX6_changeRoom_6 : decode cX6_changeRoom 6 = .ok (.iload_n 2, 1) := by decide +kernel
theorem dX6_changeRoom_7 : decode cX6_changeRoom 7 = .ok (.putfield 110, 3) := by decide +kernel
theorem dX6_changeRoom_10 : decode cX6_changeRoom 10 = .ok (.aload_n 0, 1) := by decide +kernel
theorem dX6_changeRoom_11 : decode cX6_changeRoom 11 = .ok (.getfield 21, 3) := by decide +kernel
theorem dX6_changeRoom_14 : decode cX6_changeRoom 14 = .ok (.dup, 1) := by decide +kernel
theorem dX6_changeRoom_15 : decode cX6_changeRoom 15 = .ok (.getfield 197, 3) := by decide +kernel
theorem dX6_changeRoom_18 : decode cX6_changeRoom 18 = .ok (.aload_n 1, 1) := by decide +kernel
theorem dX6_changeRoom_19 : decode cX6_changeRoom 19 = .ok (.iconst 0, 1) := by decide +kernel
theorem dX6_changeRoom_20 : decode cX6_changeRoom 20 = .ok (.invokevirtual 343, 3) := by decide +kernel
theorem dX6_changeRoom_23 : decode cX6_changeRoom 23 = .ok (.iadd, 1) := by decide +kernel
theorem dX6_changeRoom_24 : decode cX6_changeRoom 24 = .ok (.putfield 197, 3) := by decide +kernel
theorem dX6_changeRoom_27 : decode cX6_changeRoom 27 = .ok (.iload_n 3, 1) := by decide +kernel
theorem dX6_changeRoom_28 : decode cX6_changeRoom 28 = .ok (.ireturn, 1) := by decide +kernel
def wpX6_changeRoom_0 (C : CT)  (n1 : Nat) (x2 : Int32) (V : Mem) (Q : Option AV → Mem → Prop) : Prop :=
  (∀ z_1 : Int32, z_1 = (V 3 n1 3) → (∀ V_2 : Mem, V_2 = mu V 3 n1 3 x2 → (cI C mX2_takeWater [aR 3 n1, aI 0] V_2 (fun x_4 V_3 => (∀ V_5 : Mem, V_5 = mu V_3 2 0 13 ((V_2 2 0 13) + x_4) → Q (some (aI z_1)) V_5)))))
set_option maxRecDepth 10000 in
theorem okX6_changeRoom_0 {d : Nat} {P : Option AV → Mem → Prop}  (n1 : Nat) (h_n1 : n1 < 29) (x2 : Int32)  (V : Mem)  (h : wpX6_changeRoom_0 (Cl UX d)  n1 x2 V P) : Gq (Kp (d + 1) mX6_changeRoom UX P) UX cX6_changeRoom 4 RX6 0 [(0, aR 0 0), (1, aR 3 n1), (2, aI x2)] [] V := by
  unfold wpX6_changeRoom_0 at h
  refine go_aload_n (q := 1) dX6_changeRoom_0 rfl rfl ?_
  refine go_geti fg_X6_110 dX6_changeRoom_1 (mX (n := 29) (by decide) rfl (by omega)) ?_
  refine nmI (fun z_1 e_z_1 => ?_)
  have h := h z_1 e_z_1
  refine go_istore_n (al1 := [(3, aI z_1), (0, aR 0 0), (1, aR 3 n1), (2, aI x2)]) dX6_changeRoom_4 rfl (by decide) rfl ?_
  refine go_aload_n (q := 2) dX6_changeRoom_5 rfl rfl ?_
  refine go_iload_n (q := 3) dX6_changeRoom_6 rfl rfl ?_
  refine go_puti fp_X6_110 dX6_changeRoom_7 (mX (n := 29) (by decide) rfl (by omega)) ?_
  refine nmV (fun V_2 e_V_2 => ?_)
  have h := h V_2 e_V_2
  refine go_aload_n (q := 1) dX6_changeRoom_10 rfl rfl ?_
  refine go_getr fg_X6_21 dX6_changeRoom_11 (mX (n := 1) (by decide) rfl (by omega)) ?_
  refine go_dup dX6_changeRoom_14 rfl ?_
  refine go_geti fg_X6_197 dX6_changeRoom_15 (mX (n := 3) (by decide) rfl (by omega)) ?_
  refine go_aload_n (q := 2) dX6_changeRoom_18 rfl rfl ?_
  refine go_iconst (v := 0) dX6_changeRoom_19 (by decide) ?_
  refine go_cVI (As := [aI 0]) (st := [aI (V_2 2 0 13), aR 2 0]) (r := 3) (i := n1) mv_X2_takeWater dX6_changeRoom_20 ml_X6_343 (hr_Kp (Nat.le_refl d)) rfl rfl (mX (n := 29) (by decide) rfl (by omega)) rfl rfl (Nat.le_of_ble_eq_true rfl) h (fun x_4 V_3 h => ?_)
  refine go_iadd dX6_changeRoom_23 ?_
  refine go_puti fp_X6_197 dX6_changeRoom_24 (mX (n := 3) (by decide) rfl (by omega)) ?_
  refine nmV (fun V_5 e_V_5 => ?_)
  have h := h V_5 e_V_5
  refine go_iload_n (q := 0) dX6_changeRoom_27 rfl rfl ?_
  exact go_iret rfl dX6_changeRoom_28 h
theorem clX6_changeRoom {d : Nat} {P : Option AV → Mem → Prop}  (n1 : Nat) (h_n1 : n1 < 29) (x2 : Int32) (V : Mem)  (h : wpX6_changeRoom_0 (Cl UX d)  n1 x2 V P) : Cl UX (d + 1) mX6_changeRoom [aR 0 0, aR 3 n1, aI x2] V P :=
  cl_of [(0, aR 0 0), (1, aR 3 n1), (2, aI x2)] (by decide) (fun _ => Nat.le_of_ble_eq_true rfl) (fun _ => rfl) (okX6_changeRoom_0 n1 h_n1 x2 V  h)
theorem dX6_change_0 : decode cX6_change 0 = .ok (.aload_n 0, 1) := by decide +kernel
theorem dX6_change_1 : decode cX6_change 1 = .ok (.iload_n 1, 1) := by decide +kernel
theorem dX6_change_2 : decode cX6_change 2 = .ok (.iaload, 1) := by decide +kernel
theorem dX6_change_3 : decode cX6_change 3 = .ok (.istore_n 3, 1) := by decide +kernel
theorem dX6_change_4 : decode cX6_change 4 = .ok (.aload_n 0, 1) := by decide +kernel
theorem dX6_change_5 : decode cX6_change 5 = .ok (.iload_n 1, 1) := by decide +kernel
theorem dX6_change_6 : decode cX6_change 6 = .ok (.iload_n 2, 1) := by decide +kernel
theorem dX6_change_7 : decode cX6_change 7 = .ok (.iastore, 1) := by decide +kernel
theorem dX6_change_8 : decode cX6_change 8 = .ok (.iload_n 3, 1) := by decide +kernel
theorem dX6_change_9 : decode cX6_change 9 = .ok (.ireturn, 1) := by decide +kernel
def wpX6_change_14_0 (C : CT)  (n0 : Nat) (x1 : Int32) (x2 : Int32) (V : Mem) (Q : Option AV → Mem → Prop) : Prop :=
  (∃ j_1 : Nat, x1 = nI j_1 ∧ j_1 < 24 ∧ (∀ z_2 : Int32, z_2 = (V 14 n0 j_1) → (∀ V_3 : Mem, V_3 = mu V 14 n0 j_1 x2 → Q (some (aI z_2)) V_3)))
set_option maxRecDepth 10000 in
theorem okX6_change_14_0 {d : Nat} {P : Option AV → Mem → Prop}  (n0 : Nat) (h_n0 : n0 < 3) (x1 : Int32) (x2 : Int32)  (V : Mem)  (h : wpX6_change_14_0 (Cl UX d)  n0 x1 x2 V P) : Gq (Kp (d + 1) mX6_change UX P) UX cX6_change 4 RX6 0 [(0, aR 14 n0), (1, aI x1), (2, aI x2)] [] V := by
  unfold wpX6_change_14_0 at h
  refine go_aload_n (q := 0) dX6_change_0 rfl rfl ?_
  refine go_iload_n (q := 1) dX6_change_1 rfl rfl ?_
  obtain ⟨j_1, e_j_1, l_j_1, h⟩ := h
  refine go_iald (r := 14) (n := 24) (j := j_1) rfl (by decide) dX6_change_2 (mX (n := 3) (by decide) rfl (by omega)) e_j_1 l_j_1 ?_
  refine nmI (fun z_2 e_z_2 => ?_)
  have h := h z_2 e_z_2
  refine go_istore_n (al1 := [(3, aI z_2), (0, aR 14 n0), (1, aI x1), (2, aI x2)]) dX6_change_3 rfl (by decide) rfl ?_
  refine go_aload_n (q := 1) dX6_change_4 rfl rfl ?_
  refine go_iload_n (q := 2) dX6_change_5 rfl rfl ?_
  refine go_iload_n (q := 3) dX6_change_6 rfl rfl ?_
  refine go_iast (r := 14) (n := 24) (j := j_1) rfl (by decide) dX6_change_7 (mX (n := 3) (by decide) rfl (by omega)) e_j_1 (by omega) ?_
  refine nmV (fun V_3 e_V_3 => ?_)
  have h := h V_3 e_V_3
  refine go_iload_n (q := 0) dX6_change_8 rfl rfl ?_
  exact go_iret rfl dX6_change_9 h
theorem clX6_change_14 {d : Nat} {P : Option AV → Mem → Prop}  (n0 : Nat) (h_n0 : n0 < 3) (x1 : Int32) (x2 : Int32) (V : Mem)  (h : wpX6_change_14_0 (Cl UX d)  n0 x1 x2 V P) : Cl UX (d + 1) mX6_change [aR 14 n0, aI x1, aI x2] V P :=
  cl_of [(0, aR 14 n0), (1, aI x1), (2, aI x2)] (by decide) (fun _ => Nat.le_of_ble_eq_true rfl) (fun _ => rfl) (okX6_change_14_0 n0 h_n0 x1 x2 V  h)
def wpX6_change_15_0 (C : CT)  (n0 : Nat) (x1 : Int32) (x2 : Int32) (V : Mem) (Q : Option AV → Mem → Prop) : Prop :=
  (∃ j_1 : Nat, x1 = nI j_1 ∧ j_1 < 24 ∧ (∀ z_2 : Int32, z_2 = (V 15 n0 j_1) → (∀ V_3 : Mem, V_3 = mu V 15 n0 j_1 x2 → Q (some (aI z_2)) V_3)))
set_option maxRecDepth 10000 in
theorem okX6_change_15_0 {d : Nat} {P : Option AV → Mem → Prop}  (n0 : Nat) (h_n0 : n0 < 3) (x1 : Int32) (x2 : Int32)  (V : Mem)  (h : wpX6_change_15_0 (Cl UX d)  n0 x1 x2 V P) : Gq (Kp (d + 1) mX6_change UX P) UX cX6_change 4 RX6 0 [(0, aR 15 n0), (1, aI x1), (2, aI x2)] [] V := by
  unfold wpX6_change_15_0 at h
  refine go_aload_n (q := 0) dX6_change_0 rfl rfl ?_
  refine go_iload_n (q := 1) dX6_change_1 rfl rfl ?_
  obtain ⟨j_1, e_j_1, l_j_1, h⟩ := h
  refine go_iald (r := 15) (n := 24) (j := j_1) rfl (by decide) dX6_change_2 (mX (n := 3) (by decide) rfl (by omega)) e_j_1 l_j_1 ?_
  refine nmI (fun z_2 e_z_2 => ?_)
  have h := h z_2 e_z_2
  refine go_istore_n (al1 := [(3, aI z_2), (0, aR 15 n0), (1, aI x1), (2, aI x2)]) dX6_change_3 rfl (by decide) rfl ?_
  refine go_aload_n (q := 1) dX6_change_4 rfl rfl ?_
  refine go_iload_n (q := 2) dX6_change_5 rfl rfl ?_
  refine go_iload_n (q := 3) dX6_change_6 rfl rfl ?_
  refine go_iast (r := 15) (n := 24) (j := j_1) rfl (by decide) dX6_change_7 (mX (n := 3) (by decide) rfl (by omega)) e_j_1 (by omega) ?_
  refine nmV (fun V_3 e_V_3 => ?_)
  have h := h V_3 e_V_3
  refine go_iload_n (q := 0) dX6_change_8 rfl rfl ?_
  exact go_iret rfl dX6_change_9 h
theorem clX6_change_15 {d : Nat} {P : Option AV → Mem → Prop}  (n0 : Nat) (h_n0 : n0 < 3) (x1 : Int32) (x2 : Int32) (V : Mem)  (h : wpX6_change_15_0 (Cl UX d)  n0 x1 x2 V P) : Cl UX (d + 1) mX6_change [aR 15 n0, aI x1, aI x2] V P :=
  cl_of [(0, aR 15 n0), (1, aI x1), (2, aI x2)] (by decide) (fun _ => Nat.le_of_ble_eq_true rfl) (fun _ => rfl) (okX6_change_15_0 n0 h_n0 x1 x2 V  h)
theorem dX6_yieldOfHeat_0 : decode cX6_yieldOfHeat 0 = .ok (.aload_n 0, 1) := by decide +kernel
theorem dX6_yieldOfHeat_1 : decode cX6_yieldOfHeat 1 = .ok (.getfield 28, 3) := by decide +kernel
theorem dX6_yieldOfHeat_4 : decode cX6_yieldOfHeat 4 = .ok (.aload_n 0, 1) := by decide +kernel
theorem dX6_yieldOfHeat_5 : decode cX6_yieldOfHeat 5 = .ok (.getfield 21, 3) := by decide +kernel
theorem dX6_yieldOfHeat_8 : decode cX6_yieldOfHeat 8 = .ok (.invokevirtual 203, 3) := by decide +kernel
theorem dX6_yieldOfHeat_11 : decode cX6_yieldOfHeat 11 = .ok (.aload_n 0, 1) := by decide +kernel
theorem dX6_yieldOfHeat_12 : decode cX6_yieldOfHeat 12 = .ok (.getfield 28, 3) := by decide +kernel
theorem dX6_yieldOfHeat_15 : decode cX6_yieldOfHeat 15 = .ok (.getfield 95, 3) := by decide +kernel
theorem dX6_yieldOfHeat_18 : decode cX6_yieldOfHeat 18 = .ok (.iload_n 1, 1) := by decide +kernel
theorem dX6_yieldOfHeat_19 : decode cX6_yieldOfHeat 19 = .ok (.aaload, 1) := by decide +kernel
theorem dX6_yieldOfHeat_20 : decode cX6_yieldOfHeat 20 = .ok (.iload_n 3, 1) := by decide +kernel
theorem dX6_yieldOfHeat_21 : decode cX6_yieldOfHeat 21 = .ok (.putfield 107, 3) := by decide +kernel
theorem dX6_yieldOfHeat_24 : decode cX6_yieldOfHeat 24 = .ok (.aload_n 0, 1) := by decide +kernel
theorem dX6_yieldOfHeat_25 : decode cX6_yieldOfHeat 25 = .ok (.getfield 28, 3) := by decide +kernel
theorem dX6_yieldOfHeat_28 : decode cX6_yieldOfHeat 28 = .ok (.iload_n 2, 1) := by decide +kernel
theorem dX6_yieldOfHeat_29 : decode cX6_yieldOfHeat 29 = .ok (.invokevirtual 187, 3) := by decide +kernel
theorem dX6_yieldOfHeat_32 : decode cX6_yieldOfHeat 32 = .ok (.pop, 1) := by decide +kernel
theorem dX6_yieldOfHeat_33 : decode cX6_yieldOfHeat 33 = .ok (.aload_n 0, 1) := by decide +kernel
theorem dX6_yieldOfHeat_34 : decode cX6_yieldOfHeat 34 = .ok (.getfield 28, 3) := by decide +kernel
theorem dX6_yieldOfHeat_37 : decode cX6_yieldOfHeat 37 = .ok (.getfield 95, 3) := by decide +kernel
theorem dX6_yieldOfHeat_40 : decode cX6_yieldOfHeat 40 = .ok (.iload_n 1, 1) := by decide +kernel
theorem dX6_yieldOfHeat_41 : decode cX6_yieldOfHeat 41 = .ok (.aaload, 1) := by decide +kernel
theorem dX6_yieldOfHeat_42 : decode cX6_yieldOfHeat 42 = .ok (.getfield 113, 3) := by decide +kernel
theorem dX6_yieldOfHeat_45 : decode cX6_yieldOfHeat 45 = .ok (.iload_n 2, 1) := by decide +kernel
theorem dX6_yieldOfHeat_46 : decode cX6_yieldOfHeat 46 = .ok (.iload_n 3, 1) := by decide +kernel
theorem dX6_yieldOfHeat_47 : decode cX6_yieldOfHeat 47 = .ok (.imul, 1) := by decide +kernel
theorem dX6_yieldOfHeat_48 : decode cX6_yieldOfHeat 48 = .ok (.isub, 1) := by decide +kernel
theorem dX6_yieldOfHeat_49 : decode cX6_yieldOfHeat 49 = .ok (.ireturn, 1) := by decide +kernel
def wpX6_yieldOfHeat_0 (C : CT)   (x1 : Int32) (x2 : Int32) (x3 : Int32) (V : Mem) (Q : Option AV → Mem → Prop) : Prop :=
  (cV C mX5_become [aR 2 2, aR 2 0] V (fun V_1 => (∃ j_2 : Nat, x1 = nI j_2 ∧ j_2 < 8 ∧ (∀ V_3 : Mem, V_3 = mu V_1 3 (8 * 2 + j_2) 2 x3 → (cI C mX5_passHours [aR 2 2, aI x2] V_3 (fun x_5 V_4 => Q (some (aI ((V_4 3 (8 * 2 + j_2) 4) - (x2 * x3)))) V_4))))))
set_option maxRecDepth 10000 in
theorem okX6_yieldOfHeat_0 {d : Nat} {P : Option AV → Mem → Prop}    (x1 : Int32) (x2 : Int32) (x3 : Int32)  (V : Mem)  (h : wpX6_yieldOfHeat_0 (Cl UX d)   x1 x2 x3 V P) : Gq (Kp (d + 1) mX6_yieldOfHeat UX P) UX cX6_yieldOfHeat 4 RX6 0 [(0, aR 0 0), (1, aI x1), (2, aI x2), (3, aI x3)] [] V := by
  unfold wpX6_yieldOfHeat_0 at h
  refine go_aload_n (q := 0) dX6_yieldOfHeat_0 rfl rfl ?_
  refine go_getr fg_X6_28 dX6_yieldOfHeat_1 (mX (n := 1) (by decide) rfl (by omega)) ?_
  refine go_aload_n (q := 0) dX6_yieldOfHeat_4 rfl rfl ?_
  refine go_getr fg_X6_21 dX6_yieldOfHeat_5 (mX (n := 1) (by decide) rfl (by omega)) ?_
  refine go_cVV (As := [aR 2 0]) (st := []) (r := 2) (i := 2) mv_X5_become dX6_yieldOfHeat_8 ml_X6_203 (hr_Kp (Nat.le_refl d)) rfl rfl (mX (n := 3) (by decide) rfl (by omega)) rfl rfl (Nat.le_of_ble_eq_true rfl) h (fun V_1 h => ?_)
  refine go_aload_n (q := 0) dX6_yieldOfHeat_11 rfl rfl ?_
  refine go_getr fg_X6_28 dX6_yieldOfHeat_12 (mX (n := 1) (by decide) rfl (by omega)) ?_
  refine go_getr fg_X6_95 dX6_yieldOfHeat_15 (mX (n := 3) (by decide) rfl (by omega)) ?_
  refine go_iload_n (q := 1) dX6_yieldOfHeat_18 rfl rfl ?_
  obtain ⟨j_2, e_j_2, l_j_2, h⟩ := h
  refine go_aald (r := 13) (n := 8) (j := j_2) rfl rfl (by decide) dX6_yieldOfHeat_19 (mX (n := 3) (by decide) rfl (by omega)) e_j_2 l_j_2 ?_
  refine go_iload_n (q := 3) dX6_yieldOfHeat_20 rfl rfl ?_
  refine go_puti fp_X6_107 dX6_yieldOfHeat_21 (mX (n := 29) (by decide) rfl (by omega)) ?_
  refine nmV (fun V_3 e_V_3 => ?_)
  have h := h V_3 e_V_3
  refine go_aload_n (q := 0) dX6_yieldOfHeat_24 rfl rfl ?_
  refine go_getr fg_X6_28 dX6_yieldOfHeat_25 (mX (n := 1) (by decide) rfl (by omega)) ?_
  refine go_iload_n (q := 2) dX6_yieldOfHeat_28 rfl rfl ?_
  refine go_cVI (As := [aI x2]) (st := []) (r := 2) (i := 2) mv_X5_passHours dX6_yieldOfHeat_29 ml_X6_187 (hr_Kp (Nat.le_refl d)) rfl rfl (mX (n := 3) (by decide) rfl (by omega)) rfl rfl (Nat.le_of_ble_eq_true rfl) h (fun x_5 V_4 h => ?_)
  refine go_pop dX6_yieldOfHeat_32 rfl ?_
  refine go_aload_n (q := 0) dX6_yieldOfHeat_33 rfl rfl ?_
  refine go_getr fg_X6_28 dX6_yieldOfHeat_34 (mX (n := 1) (by decide) rfl (by omega)) ?_
  refine go_getr fg_X6_95 dX6_yieldOfHeat_37 (mX (n := 3) (by decide) rfl (by omega)) ?_
  refine go_iload_n (q := 1) dX6_yieldOfHeat_40 rfl rfl ?_
  refine go_aald (r := 13) (n := 8) (j := j_2) rfl rfl (by decide) dX6_yieldOfHeat_41 (mX (n := 3) (by decide) rfl (by omega)) e_j_2 (by omega) ?_
  refine go_geti fg_X6_113 dX6_yieldOfHeat_42 (mX (n := 29) (by decide) rfl (by omega)) ?_
  refine go_iload_n (q := 2) dX6_yieldOfHeat_45 rfl rfl ?_
  refine go_iload_n (q := 3) dX6_yieldOfHeat_46 rfl rfl ?_
  refine go_imul dX6_yieldOfHeat_47 ?_
  refine go_isub dX6_yieldOfHeat_48 ?_
  exact go_iret rfl dX6_yieldOfHeat_49 h
theorem clX6_yieldOfHeat {d : Nat} {P : Option AV → Mem → Prop}    (x1 : Int32) (x2 : Int32) (x3 : Int32) (V : Mem)  (h : wpX6_yieldOfHeat_0 (Cl UX d)   x1 x2 x3 V P) : Cl UX (d + 1) mX6_yieldOfHeat [aR 0 0, aI x1, aI x2, aI x3] V P :=
  cl_of [(0, aR 0 0), (1, aI x1), (2, aI x2), (3, aI x3)] (by decide) (fun _ => Nat.le_of_ble_eq_true rfl) (fun _ => rfl) (okX6_yieldOfHeat_0   x1 x2 x3 V  h)
theorem dX6_thinkOfWaters_0 : decode cX6_thinkOfWaters 0 = .ok (.aload_n 0, 1) := by decide +kernel
theorem dX6_thinkOfWaters_1 : decode cX6_thinkOfWaters 1 = .ok (.getfield 28, 3) := by decide +kernel
theorem dX6_thinkOfWaters_4 : decode cX6_thinkOfWaters 4 = .ok (.aload_n 0, 1) := by decide +kernel
theorem dX6_thinkOfWaters_5 : decode cX6_thinkOfWaters 5 = .ok (.getfield 21, 3) := by decide +kernel
theorem dX6_thinkOfWaters_8 : decode cX6_thinkOfWaters 8 = .ok (.invokevirtual 203, 3) := by decide +kernel
theorem dX6_thinkOfWaters_11 : decode cX6_thinkOfWaters 11 = .ok (.aload_n 0, 1) := by decide +kernel
theorem dX6_thinkOfWaters_12 : decode cX6_thinkOfWaters 12 = .ok (.getfield 28, 3) := by decide +kernel
theorem dX6_thinkOfWaters_15 : decode cX6_thinkOfWaters 15 = .ok (.iload_n 1, 1) := by decide +kernel
theorem dX6_thinkOfWaters_16 : decode cX6_thinkOfWaters 16 = .ok (.invokevirtual 187, 3) := by decide +kernel
theorem dX6_thinkOfWaters_19 : decode cX6_thinkOfWaters 19 = .ok (.pop, 1) := by decide +kernel
theorem dX6_thinkOfWaters_20 : decode cX6_thinkOfWaters 20 = .ok (.iconst 0, 1) := by decide +kernel
theorem dX6_thinkOfWaters_21 : decode cX6_thinkOfWaters 21 = .ok (.istore_n 2, 1) := by decide +kernel
theorem dX6_thinkOfWaters_22 : decode cX6_thinkOfWaters 22 = .ok (.iload_n 2, 1) := by decide +kernel
theorem dX6_thinkOfWaters_23 : decode cX6_thinkOfWaters 23 = .ok (.aload_n 0, 1) := by decide +kernel
theorem dX6_thinkOfWaters_24 : decode cX6_thinkOfWaters 24 = .ok (.getfield 28, 3) := by decide +kernel
theorem dX6_thinkOfWaters_27 : decode cX6_thinkOfWaters 27 = .ok (.getfield 84, 3) := by decide +kernel
theorem dX6_thinkOfWaters_30 : decode cX6_thinkOfWaters 30 = .ok (.if_icmp .ge 27, 3) := by decide +kernel
theorem dX6_thinkOfWaters_33 : decode cX6_thinkOfWaters 33 = .ok (.aload_n 0, 1) := by decide +kernel
theorem dX6_thinkOfWaters_34 : decode cX6_thinkOfWaters 34 = .ok (.getfield 70, 3) := by decide +kernel
theorem dX6_thinkOfWaters_37 : decode cX6_thinkOfWaters 37 = .ok (.iload_n 2, 1) := by decide +kernel
theorem dX6_thinkOfWaters_38 : decode cX6_thinkOfWaters 38 = .ok (.aload_n 0, 1) := by decide +kernel
theorem dX6_thinkOfWaters_39 : decode cX6_thinkOfWaters 39 = .ok (.getfield 28, 3) := by decide +kernel
theorem dX6_thinkOfWaters_42 : decode cX6_thinkOfWaters 42 = .ok (.getfield 95, 3) := by decide +kernel
theorem dX6_thinkOfWaters_45 : decode cX6_thinkOfWaters 45 = .ok (.iload_n 2, 1) := by decide +kernel
theorem dX6_thinkOfWaters_46 : decode cX6_thinkOfWaters 46 = .ok (.aaload, 1) := by decide +kernel
theorem dX6_thinkOfWaters_47 : decode cX6_thinkOfWaters 47 = .ok (.getfield 113, 3) := by decide +kernel
theorem dX6_thinkOfWaters_50 : decode cX6_thinkOfWaters 50 = .ok (.iastore, 1) := by decide +kernel
theorem dX6_thinkOfWaters_51 : decode cX6_thinkOfWaters 51 = .ok (.iinc 2 1, 3) := by decide +kernel
theorem dX6_thinkOfWaters_54 : decode cX6_thinkOfWaters 54 = .ok (.goto (-32), 3) := by decide +kernel
theorem dX6_thinkOfWaters_57 : decode cX6_thinkOfWaters 57 = .ok (.return_, 1) := by decide +kernel
def wpX6_thinkOfWaters_22 (C : CT) (I22 : Int32 → Int32 → Mem → Prop)  (x1 : Int32) (x2 : Int32) (V : Mem) (Q : Option AV → Mem → Prop) : Prop :=
  (((V 2 2 6) ≤ x2 → Q none V) ∧ (¬ (V 2 2 6) ≤ x2 → (∃ j_1 : Nat, x2 = nI j_1 ∧ j_1 < 8 ∧ (∀ V_2 : Mem, V_2 = mu V 22 0 j_1 (V 3 (8 * 2 + j_1) 4) → I22 x1 (x2 + 1) V_2))))
set_option maxRecDepth 10000 in
theorem okX6_thinkOfWaters_22 {d : Nat} {P : Option AV → Mem → Prop} {I22 : Int32 → Int32 → Mem → Prop}   (x1 : Int32) (x2 : Int32)  (V : Mem) (hk22 : ∀ (x1 : Int32) (x2 : Int32), ∀ (V : Mem), I22 x1 x2 V → Gq (Kp (d + 1) mX6_thinkOfWaters UX P) UX cX6_thinkOfWaters 3 RX6 22 [(0, aR 0 0), (1, aI x1), (2, aI x2)] [] V) (h : wpX6_thinkOfWaters_22 (Cl UX d) I22  x1 x2 V P) : Gq (Kp (d + 1) mX6_thinkOfWaters UX P) UX cX6_thinkOfWaters 3 RX6 22 [(0, aR 0 0), (1, aI x1), (2, aI x2)] [] V := by
  unfold wpX6_thinkOfWaters_22 at h
  refine go_iload_n (q := 2) dX6_thinkOfWaters_22 rfl rfl ?_
  refine go_aload_n (q := 0) dX6_thinkOfWaters_23 rfl rfl ?_
  refine go_getr fg_X6_28 dX6_thinkOfWaters_24 (mX (n := 1) (by decide) rfl (by omega)) ?_
  refine go_geti fg_X6_84 dX6_thinkOfWaters_27 (mX (n := 3) (by decide) rfl (by omega)) ?_
  refine go_icmp_ge (tgt := 57) dX6_thinkOfWaters_30 (by decide) (fun c_3 => ?_) (fun c_3 => ?_)
  · have h := h.1 c_3
    exact go_vret rfl dX6_thinkOfWaters_57 h
  · have h := h.2 c_3
    refine go_aload_n (q := 0) dX6_thinkOfWaters_33 rfl rfl ?_
    refine go_getr fg_X6_70 dX6_thinkOfWaters_34 (mX (n := 1) (by decide) rfl (by omega)) ?_
    refine go_iload_n (q := 2) dX6_thinkOfWaters_37 rfl rfl ?_
    refine go_aload_n (q := 0) dX6_thinkOfWaters_38 rfl rfl ?_
    refine go_getr fg_X6_28 dX6_thinkOfWaters_39 (mX (n := 1) (by decide) rfl (by omega)) ?_
    refine go_getr fg_X6_95 dX6_thinkOfWaters_42 (mX (n := 3) (by decide) rfl (by omega)) ?_
    refine go_iload_n (q := 2) dX6_thinkOfWaters_45 rfl rfl ?_
    obtain ⟨j_1, e_j_1, l_j_1, h⟩ := h
    refine go_aald (r := 13) (n := 8) (j := j_1) rfl rfl (by decide) dX6_thinkOfWaters_46 (mX (n := 3) (by decide) rfl (by omega)) e_j_1 l_j_1 ?_
    refine go_geti fg_X6_113 dX6_thinkOfWaters_47 (mX (n := 29) (by decide) rfl (by omega)) ?_
    refine go_iast (r := 22) (n := 8) (j := j_1) rfl (by decide) dX6_thinkOfWaters_50 (mX (n := 1) (by decide) rfl (by omega)) e_j_1 (by omega) ?_
    refine nmV (fun V_2 e_V_2 => ?_)
    have h := h V_2 e_V_2
    refine go_iinc (q := 2) (y := 1) (al1 := [(2, aI (x2 + 1)), (0, aR 0 0), (1, aI x1)]) dX6_thinkOfWaters_51 rfl (by decide) (by decide) rfl ?_
    refine go_goto (tgt := 22) dX6_thinkOfWaters_54 (by decide) ?_
    refine go_sub (al1 := [(0, aR 0 0), (1, aI x1), (2, aI (x2 + 1))]) [1, 2, 0] rfl ?_
    exact hk22 x1 (x2 + 1)  V_2 h
def wpX6_thinkOfWaters_0 (C : CT) (I22 : Int32 → Int32 → Mem → Prop)  (x1 : Int32) (V : Mem) (Q : Option AV → Mem → Prop) : Prop :=
  (cV C mX5_become [aR 2 2, aR 2 0] V (fun V_1 => (cI C mX5_passHours [aR 2 2, aI x1] V_1 (fun x_3 V_2 => I22 x1 0 V_2))))
set_option maxRecDepth 10000 in
theorem okX6_thinkOfWaters_0 {d : Nat} {P : Option AV → Mem → Prop} {I22 : Int32 → Int32 → Mem → Prop}   (x1 : Int32)  (V : Mem) (hk22 : ∀ (x1 : Int32) (x2 : Int32), ∀ (V : Mem), I22 x1 x2 V → Gq (Kp (d + 1) mX6_thinkOfWaters UX P) UX cX6_thinkOfWaters 3 RX6 22 [(0, aR 0 0), (1, aI x1), (2, aI x2)] [] V) (h : wpX6_thinkOfWaters_0 (Cl UX d) I22  x1 V P) : Gq (Kp (d + 1) mX6_thinkOfWaters UX P) UX cX6_thinkOfWaters 3 RX6 0 [(0, aR 0 0), (1, aI x1)] [] V := by
  unfold wpX6_thinkOfWaters_0 at h
  refine go_aload_n (q := 0) dX6_thinkOfWaters_0 rfl rfl ?_
  refine go_getr fg_X6_28 dX6_thinkOfWaters_1 (mX (n := 1) (by decide) rfl (by omega)) ?_
  refine go_aload_n (q := 0) dX6_thinkOfWaters_4 rfl rfl ?_
  refine go_getr fg_X6_21 dX6_thinkOfWaters_5 (mX (n := 1) (by decide) rfl (by omega)) ?_
  refine go_cVV (As := [aR 2 0]) (st := []) (r := 2) (i := 2) mv_X5_become dX6_thinkOfWaters_8 ml_X6_203 (hr_Kp (Nat.le_refl d)) rfl rfl (mX (n := 3) (by decide) rfl (by omega)) rfl rfl (Nat.le_of_ble_eq_true rfl) h (fun V_1 h => ?_)
  refine go_aload_n (q := 0) dX6_thinkOfWaters_11 rfl rfl ?_
  refine go_getr fg_X6_28 dX6_thinkOfWaters_12 (mX (n := 1) (by decide) rfl (by omega)) ?_
  refine go_iload_n (q := 1) dX6_thinkOfWaters_15 rfl rfl ?_
  refine go_cVI (As := [aI x1]) (st := []) (r := 2) (i := 2) mv_X5_passHours dX6_thinkOfWaters_16 ml_X6_187 (hr_Kp (Nat.le_refl d)) rfl rfl (mX (n := 3) (by decide) rfl (by omega)) rfl rfl (Nat.le_of_ble_eq_true rfl) h (fun x_3 V_2 h => ?_)
  refine go_pop dX6_thinkOfWaters_19 rfl ?_
  refine go_iconst (v := 0) dX6_thinkOfWaters_20 (by decide) ?_
  refine go_istore_n (al1 := [(2, aI 0), (0, aR 0 0), (1, aI x1)]) dX6_thinkOfWaters_21 rfl (by decide) rfl ?_
  refine go_sub (al1 := [(0, aR 0 0), (1, aI x1), (2, aI 0)]) [1, 2, 0] rfl ?_
  exact hk22 x1 0  V_2 h
theorem clX6_thinkOfWaters {d : Nat} {P : Option AV → Mem → Prop} {I22 : Int32 → Int32 → Mem → Prop}   (x1 : Int32) (V : Mem) (hk22 : ∀ (x1 : Int32) (x2 : Int32), ∀ (V : Mem), I22 x1 x2 V → Gq (Kp (d + 1) mX6_thinkOfWaters UX P) UX cX6_thinkOfWaters 3 RX6 22 [(0, aR 0 0), (1, aI x1), (2, aI x2)] [] V) (h : wpX6_thinkOfWaters_0 (Cl UX d) I22  x1 V P) : Cl UX (d + 1) mX6_thinkOfWaters [aR 0 0, aI x1] V P :=
  cl_of [(0, aR 0 0), (1, aI x1)] (by decide) (fun _ => Nat.le_of_ble_eq_true rfl) (fun _ => rfl) (okX6_thinkOfWaters_0   x1 V hk22 h)
theorem dX6_misfit_0 : decode cX6_misfit 0 = .ok (.aload_n 0, 1) := by decide +kernel
theorem dX6_misfit_1 : decode cX6_misfit 1 = .ok (.getfield 28, 3) := by decide +kernel
theorem dX6_misfit_4 : decode cX6_misfit 4 = .ok (.aload_n 0, 1) := by decide +kernel
theorem dX6_misfit_5 : decode cX6_misfit 5 = .ok (.getfield 21, 3) := by decide +kernel
theorem dX6_misfit_8 : decode cX6_misfit 8 = .ok (.invokevirtual 203, 3) := by decide +kernel
theorem dX6_misfit_11 : decode cX6_misfit 11 = .ok (.aload_n 0, 1) := by decide +kernel
theorem dX6_misfit_12 : decode cX6_misfit 12 = .ok (.getfield 28, 3) := by decide +kernel
theorem dX6_misfit_15 : decode cX6_misfit 15 = .ok (.iload_n 2, 1) := by decide +kernel
theorem dX6_misfit_16 : decode cX6_misfit 16 = .ok (.putfield 181, 3) := by decide +kernel
theorem dX6_misfit_19 : decode cX6_misfit 19 = .ok (.iconst 0, 1) := by decide +kernel
theorem dX6_misfit_20 : decode cX6_misfit 20 = .ok (.istore_n 3, 1) := by decide +kernel
theorem dX6_misfit_21 : decode cX6_misfit 21 = .ok (.iconst 0, 1) := by decide +kernel
theorem dX6_misfit_22 : decode cX6_misfit 22 = .ok (.istore 4, 2) := by decide +kernel
theorem dX6_misfit_24 : decode cX6_misfit 24 = .ok (.iload 4, 2) := by decide +kernel
theorem dX6_misfit_26 : decode cX6_misfit 26 = .ok (.aload_n 1, 1) := by decide +kernel
theorem dX6_misfit_27 : decode cX6_misfit 27 = .ok (.getfield 285, 3) := by decide +kernel
theorem dX6_misfit_30 : decode cX6_misfit 30 = .ok (.if_icmp .ge 52, 3) := by decide +kernel
theorem dX6_misfit_33 : decode cX6_misfit 33 = .ok (.iload 4, 2) := by decide +kernel
theorem dX6_misfit_35 : decode cX6_misfit 35 = .ok (.ifCond .le 11, 3) := by decide +kernel
theorem dX6_misfit_38 : decode cX6_misfit 38 = .ok (.aload_n 0, 1) := by decide +kernel
theorem dX6_misfit_39 : decode cX6_misfit 39 = .ok (.getfield 28, 3) := by decide +kernel
theorem dX6_misfit_42 : decode cX6_misfit 42 = .ok (.invokevirtual 212, 3) := by decide +kernel
theorem dX6_misfit_45 : decode cX6_misfit 45 = .ok (.pop, 1) := by decide +kernel
theorem dX6_misfit_46 : decode cX6_misfit 46 = .ok (.aload_n 1, 1) := by decide +kernel
theorem dX6_misfit_47 : decode cX6_misfit 47 = .ok (.iload 4, 2) := by decide +kernel
theorem dX6_misfit_49 : decode cX6_misfit 49 = .ok (.invokevirtual 288, 3) := by decide +kernel
theorem dX6_misfit_52 : decode cX6_misfit 52 = .ok (.ifCond .eq 24, 3) := by decide +kernel
theorem dX6_misfit_55 : decode cX6_misfit 55 = .ok (.iload_n 3, 1) := by decide +kernel
theorem dX6_misfit_56 : decode cX6_misfit 56 = .ok (.aload_n 0, 1) := by decide +kernel
theorem dX6_misfit_57 : decode cX6_misfit 57 = .ok (.getfield 28, 3) := by decide +kernel
theorem dX6_misfit_60 : decode cX6_misfit 60 = .ok (.getfield 191, 3) := by decide +kernel
theorem dX6_misfit_63 : decode cX6_misfit 63 = .ok (.aload_n 1, 1) := by decide +kernel
theorem dX6_misfit_64 : decode cX6_misfit 64 = .ok (.getfield 291, 3) := by decide +kernel
theorem dX6_misfit_67 : decode cX6_misfit 67 = .ok (.iload 4, 2) := by decide +kernel
theorem dX6_misfit_69 : decode cX6_misfit 69 = .ok (.iaload, 1) := by decide +kernel
theorem dX6_misfit_70 : decode cX6_misfit 70 = .ok (.isub, 1) := by decide +kernel
theorem dX6_misfit_71 : decode cX6_misfit 71 = .ok (.invokestatic 346, 3) := by decide +kernel
theorem dX6_misfit_74 : decode cX6_misfit 74 = .ok (.iadd, 1) := by decide +kernel
theorem dX6_misfit_75 : decode cX6_misfit 75 = .ok (.istore_n 3, 1) := by decide +kernel
theorem dX6_misfit_76 : decode cX6_misfit 76 = .ok (.iinc 4 1, 3) := by decide +kernel
theorem dX6_misfit_79 : decode cX6_misfit 79 = .ok (.goto (-55), 3) := by decide +kernel
theorem dX6_misfit_82 : decode cX6_misfit 82 = .ok (.iload_n 3, 1) := by decide +kernel
theorem dX6_misfit_83 : decode cX6_misfit 83 = .ok (.ireturn, 1) := by decide +kernel
def wpX6_misfit_46 (C : CT) (I24 : Int32 → Int32 → Int32 → Mem → Prop) (n1 : Nat) (x2 : Int32) (x3 : Int32) (x4 : Int32) (V : Mem) (Q : Option AV → Mem → Prop) : Prop :=
  (cI C mX3_isNumber [aR 4 n1, aI x4] V (fun x_2 V_1 => ((x_2 = 0 → I24 x2 x3 (x4 + 1) V_1) ∧ (¬ x_2 = 0 → (∃ j_3 : Nat, x4 = nI j_3 ∧ j_3 < 24 ∧ (∀ z_4 : Int32, z_4 = (if 0 ≤ ((V_1 2 2 11) - (V_1 23 n1 j_3)) then ((V_1 2 2 11) - (V_1 23 n1 j_3)) else 0 - ((V_1 2 2 11) - (V_1 23 n1 j_3))) → (∀ z_5 : Int32, z_5 = (x3 + z_4) → I24 x2 z_5 (x4 + 1) V_1)))))))
set_option maxRecDepth 10000 in
theorem okX6_misfit_46 {d : Nat} {P : Option AV → Mem → Prop} {I24 : Int32 → Int32 → Int32 → Mem → Prop} (n1 : Nat) (h_n1 : n1 < 9) (x2 : Int32) (x3 : Int32) (x4 : Int32)  (V : Mem) (hk24 : ∀ (x2 : Int32) (x3 : Int32) (x4 : Int32), ∀ (V : Mem), I24 x2 x3 x4 V → Gq (Kp (d + 1) mX6_misfit UX P) UX cX6_misfit 5 RX6 24 [(0, aR 0 0), (1, aR 4 n1), (2, aI x2), (3, aI x3), (4, aI x4)] [] V) (h : wpX6_misfit_46 (Cl UX d) I24 n1 x2 x3 x4 V P) : Gq (Kp (d + 1) mX6_misfit UX P) UX cX6_misfit 5 RX6 46 [(0, aR 0 0), (1, aR 4 n1), (2, aI x2), (3, aI x3), (4, aI x4)] [] V := by
  unfold wpX6_misfit_46 at h
  refine go_aload_n (q := 1) dX6_misfit_46 rfl rfl ?_
  refine go_iload (q := 4) dX6_misfit_47 rfl ?_
  refine go_cVI (As := [aI x4]) (st := []) (r := 4) (i := n1) mv_X3_isNumber dX6_misfit_49 ml_X6_288 (hr_Kp (Nat.le_refl d)) rfl rfl (mX (n := 9) (by decide) rfl (by omega)) rfl rfl (Nat.le_of_ble_eq_true rfl) h (fun x_2 V_1 h => ?_)
  refine go_if_eq (tgt := 76) dX6_misfit_52 (by decide) (fun c_6 => ?_) (fun c_6 => ?_)
  · have h := h.1 c_6
    refine go_iinc (q := 4) (y := 1) (al1 := [(4, aI (x4 + 1)), (0, aR 0 0), (1, aR 4 n1), (2, aI x2), (3, aI x3)]) dX6_misfit_76 rfl (by decide) (by decide) rfl ?_
    refine go_goto (tgt := 24) dX6_misfit_79 (by decide) ?_
    refine go_sub (al1 := [(0, aR 0 0), (1, aR 4 n1), (2, aI x2), (3, aI x3), (4, aI (x4 + 1))]) [1, 2, 3, 4, 0] rfl ?_
    exact hk24 x2 x3 (x4 + 1)  V_1 h
  · have h := h.2 c_6
    refine go_iload_n (q := 3) dX6_misfit_55 rfl rfl ?_
    refine go_aload_n (q := 0) dX6_misfit_56 rfl rfl ?_
    refine go_getr fg_X6_28 dX6_misfit_57 (mX (n := 1) (by decide) rfl (by omega)) ?_
    refine go_geti fg_X6_191 dX6_misfit_60 (mX (n := 3) (by decide) rfl (by omega)) ?_
    refine go_aload_n (q := 1) dX6_misfit_63 rfl rfl ?_
    refine go_getr fg_X6_291 dX6_misfit_64 (mX (n := 9) (by decide) rfl (by omega)) ?_
    refine go_iload (q := 4) dX6_misfit_67 rfl ?_
    obtain ⟨j_3, e_j_3, l_j_3, h⟩ := h
    refine go_iald (r := 23) (n := 24) (j := j_3) rfl (by decide) dX6_misfit_69 (mX (n := 9) (by decide) rfl (by omega)) e_j_3 l_j_3 ?_
    refine go_isub dX6_misfit_70 ?_
    refine go_mabs ml_X6_346 mt_abs1 mt_ini mt_abs2 (hr_Kp (Nat.zero_le d)) (Nat.le_of_ble_eq_true rfl) dX6_misfit_71 ?_
    refine nmI (fun z_4 e_z_4 => ?_)
    have h := h z_4 e_z_4
    refine go_iadd dX6_misfit_74 ?_
    refine nmI (fun z_5 e_z_5 => ?_)
    have h := h z_5 e_z_5
    refine go_istore_n (al1 := [(3, aI z_5), (0, aR 0 0), (1, aR 4 n1), (2, aI x2), (4, aI x4)]) dX6_misfit_75 rfl (by decide) rfl ?_
    refine go_iinc (q := 4) (y := 1) (al1 := [(4, aI (x4 + 1)), (3, aI z_5), (0, aR 0 0), (1, aR 4 n1), (2, aI x2)]) dX6_misfit_76 rfl (by decide) (by decide) rfl ?_
    refine go_goto (tgt := 24) dX6_misfit_79 (by decide) ?_
    refine go_sub (al1 := [(0, aR 0 0), (1, aR 4 n1), (2, aI x2), (3, aI z_5), (4, aI (x4 + 1))]) [2, 3, 4, 1, 0] rfl ?_
    exact hk24 x2 z_5 (x4 + 1)  V_1 h
def wpX6_misfit_24 (C : CT) (I24 : Int32 → Int32 → Int32 → Mem → Prop) (n1 : Nat) (x2 : Int32) (x3 : Int32) (x4 : Int32) (V : Mem) (Q : Option AV → Mem → Prop) : Prop :=
  (((V 4 n1 1) ≤ x4 → Q (some (aI x3)) V) ∧ (¬ (V 4 n1 1) ≤ x4 → ((x4 ≤ 0 → wpX6_misfit_46 C I24 n1 x2 x3 x4 V Q) ∧ (¬ x4 ≤ 0 → (cI C mX5_passHour [aR 2 2] V (fun x_2 V_1 => wpX6_misfit_46 C I24 n1 x2 x3 x4 V_1 Q))))))
set_option maxRecDepth 10000 in
theorem okX6_misfit_24 {d : Nat} {P : Option AV → Mem → Prop} {I24 : Int32 → Int32 → Int32 → Mem → Prop} (n1 : Nat) (h_n1 : n1 < 9) (x2 : Int32) (x3 : Int32) (x4 : Int32)  (V : Mem) (hk24 : ∀ (x2 : Int32) (x3 : Int32) (x4 : Int32), ∀ (V : Mem), I24 x2 x3 x4 V → Gq (Kp (d + 1) mX6_misfit UX P) UX cX6_misfit 5 RX6 24 [(0, aR 0 0), (1, aR 4 n1), (2, aI x2), (3, aI x3), (4, aI x4)] [] V) (h : wpX6_misfit_24 (Cl UX d) I24 n1 x2 x3 x4 V P) : Gq (Kp (d + 1) mX6_misfit UX P) UX cX6_misfit 5 RX6 24 [(0, aR 0 0), (1, aR 4 n1), (2, aI x2), (3, aI x3), (4, aI x4)] [] V := by
  unfold wpX6_misfit_24 at h
  refine go_iload (q := 4) dX6_misfit_24 rfl ?_
  refine go_aload_n (q := 1) dX6_misfit_26 rfl rfl ?_
  refine go_geti fg_X6_285 dX6_misfit_27 (mX (n := 9) (by decide) rfl (by omega)) ?_
  refine go_icmp_ge (tgt := 82) dX6_misfit_30 (by decide) (fun c_4 => ?_) (fun c_4 => ?_)
  · have h := h.1 c_4
    refine go_iload_n (q := 3) dX6_misfit_82 rfl rfl ?_
    exact go_iret rfl dX6_misfit_83 h
  · have h := h.2 c_4
    refine go_iload (q := 4) dX6_misfit_33 rfl ?_
    refine go_if_le (tgt := 46) dX6_misfit_35 (by decide) (fun c_3 => ?_) (fun c_3 => ?_)
    · have h := h.1 c_3
      exact okX6_misfit_46 n1 (by omega) x2 x3 x4  V hk24 h
    · have h := h.2 c_3
      refine go_aload_n (q := 0) dX6_misfit_38 rfl rfl ?_
      refine go_getr fg_X6_28 dX6_misfit_39 (mX (n := 1) (by decide) rfl (by omega)) ?_
      refine go_cVI (As := []) (st := []) (r := 2) (i := 2) mv_X5_passHour dX6_misfit_42 ml_X6_212 (hr_Kp (Nat.le_refl d)) rfl rfl (mX (n := 3) (by decide) rfl (by omega)) rfl rfl (Nat.le_of_ble_eq_true rfl) h (fun x_2 V_1 h => ?_)
      refine go_pop dX6_misfit_45 rfl ?_
      exact okX6_misfit_46 n1 (by omega) x2 x3 x4  V_1 hk24 h
def wpX6_misfit_0 (C : CT) (I24 : Int32 → Int32 → Int32 → Mem → Prop) (n1 : Nat) (x2 : Int32) (V : Mem) (Q : Option AV → Mem → Prop) : Prop :=
  (cV C mX5_become [aR 2 2, aR 2 0] V (fun V_1 => (∀ V_2 : Mem, V_2 = mu V_1 2 2 7 x2 → I24 x2 0 0 V_2)))
set_option maxRecDepth 10000 in
theorem okX6_misfit_0 {d : Nat} {P : Option AV → Mem → Prop} {I24 : Int32 → Int32 → Int32 → Mem → Prop} (n1 : Nat) (h_n1 : n1 < 9) (x2 : Int32)  (V : Mem) (hk24 : ∀ (x2 : Int32) (x3 : Int32) (x4 : Int32), ∀ (V : Mem), I24 x2 x3 x4 V → Gq (Kp (d + 1) mX6_misfit UX P) UX cX6_misfit 5 RX6 24 [(0, aR 0 0), (1, aR 4 n1), (2, aI x2), (3, aI x3), (4, aI x4)] [] V) (h : wpX6_misfit_0 (Cl UX d) I24 n1 x2 V P) : Gq (Kp (d + 1) mX6_misfit UX P) UX cX6_misfit 5 RX6 0 [(0, aR 0 0), (1, aR 4 n1), (2, aI x2)] [] V := by
  unfold wpX6_misfit_0 at h
  refine go_aload_n (q := 0) dX6_misfit_0 rfl rfl ?_
  refine go_getr fg_X6_28 dX6_misfit_1 (mX (n := 1) (by decide) rfl (by omega)) ?_
  refine go_aload_n (q := 0) dX6_misfit_4 rfl rfl ?_
  refine go_getr fg_X6_21 dX6_misfit_5 (mX (n := 1) (by decide) rfl (by omega)) ?_
  refine go_cVV (As := [aR 2 0]) (st := []) (r := 2) (i := 2) mv_X5_become dX6_misfit_8 ml_X6_203 (hr_Kp (Nat.le_refl d)) rfl rfl (mX (n := 3) (by decide) rfl (by omega)) rfl rfl (Nat.le_of_ble_eq_true rfl) h (fun V_1 h => ?_)
  refine go_aload_n (q := 0) dX6_misfit_11 rfl rfl ?_
  refine go_getr fg_X6_28 dX6_misfit_12 (mX (n := 1) (by decide) rfl (by omega)) ?_
  refine go_iload_n (q := 2) dX6_misfit_15 rfl rfl ?_
  refine go_puti fp_X6_181 dX6_misfit_16 (mX (n := 3) (by decide) rfl (by omega)) ?_
  refine nmV (fun V_2 e_V_2 => ?_)
  have h := h V_2 e_V_2
  refine go_iconst (v := 0) dX6_misfit_19 (by decide) ?_
  refine go_istore_n (al1 := [(3, aI 0), (0, aR 0 0), (1, aR 4 n1), (2, aI x2)]) dX6_misfit_20 rfl (by decide) rfl ?_
  refine go_iconst (v := 0) dX6_misfit_21 (by decide) ?_
  refine go_istore (al1 := [(4, aI 0), (3, aI 0), (0, aR 0 0), (1, aR 4 n1), (2, aI x2)]) dX6_misfit_22 (by decide) rfl ?_
  refine go_sub (al1 := [(0, aR 0 0), (1, aR 4 n1), (2, aI x2), (3, aI 0), (4, aI 0)]) [2, 3, 4, 1, 0] rfl ?_
  exact hk24 x2 0 0  V_2 h
theorem clX6_misfit {d : Nat} {P : Option AV → Mem → Prop} {I24 : Int32 → Int32 → Int32 → Mem → Prop} (n1 : Nat) (h_n1 : n1 < 9) (x2 : Int32) (V : Mem) (hk24 : ∀ (x2 : Int32) (x3 : Int32) (x4 : Int32), ∀ (V : Mem), I24 x2 x3 x4 V → Gq (Kp (d + 1) mX6_misfit UX P) UX cX6_misfit 5 RX6 24 [(0, aR 0 0), (1, aR 4 n1), (2, aI x2), (3, aI x3), (4, aI x4)] [] V) (h : wpX6_misfit_0 (Cl UX d) I24 n1 x2 V P) : Cl UX (d + 1) mX6_misfit [aR 0 0, aR 4 n1, aI x2] V P :=
  cl_of [(0, aR 0 0), (1, aR 4 n1), (2, aI x2)] (by decide) (fun _ => Nat.le_of_ble_eq_true rfl) (fun _ => rfl) (okX6_misfit_0 n1 h_n1 x2 V hk24 h)
theorem dX6_putBytes_0 : decode cX6_putBytes 0 = .ok (.iconst 0, 1) := by decide +kernel
theorem dX6_putBytes_1 : decode cX6_putBytes 1 = .ok (.istore_n 3, 1) := by decide +kernel
theorem dX6_putBytes_2 : decode cX6_putBytes 2 = .ok (.iload_n 3, 1) := by decide +kernel
theorem dX6_putBytes_3 : decode cX6_putBytes 3 = .ok (.iconst 4, 1) := by decide +kernel
theorem dX6_putBytes_4 : decode cX6_putBytes 4 = .ok (.if_icmp .ge 30, 3) := by decide +kernel
theorem dX6_putBytes_7 : decode cX6_putBytes 7 = .ok (.aload_n 0, 1) := by decide +kernel
theorem dX6_putBytes_8 : decode cX6_putBytes 8 = .ok (.getfield 35, 3) := by decide +kernel
theorem dX6_putBytes_11 : decode cX6_putBytes 11 = .ok (.iload_n 2, 1) := by decide +kernel
theorem dX6_putBytes_12 : decode cX6_putBytes 12 = .ok (.iload_n 3, 1) := by decide +kernel
theorem dX6_putBytes_13 : decode cX6_putBytes 13 = .ok (.iadd, 1) := by decide +kernel
theorem dX6_putBytes_14 : decode cX6_putBytes 14 = .ok (.iload_n 1, 1) := by decide +kernel
theorem dX6_putBytes_15 : decode cX6_putBytes 15 = .ok (.bipush 24, 2) := by decide +kernel
theorem dX6_putBytes_17 : decode cX6_putBytes 17 = .ok (.bipush 8, 2) := by decide +kernel
theorem dX6_putBytes_19 : decode cX6_putBytes 19 = .ok (.iload_n 3, 1) := by decide +kernel
theorem dX6_putBytes_20 : decode cX6_putBytes 20 = .ok (.imul, 1) := by decide +kernel
theorem dX6_putBytes_21 : decode cX6_putBytes 21 = .ok (.isub, 1) := by decide +kernel
theorem dX6_putBytes_22 : decode cX6_putBytes 22 = .ok (.iushr, 1) := by decide +kernel
theorem dX6_putBytes_23 : decode cX6_putBytes 23 = .ok (.sipush 255, 3) := by decide +kernel
theorem dX6_putBytes_26 : decode cX6_putBytes 26 = .ok (.iand, 1) := by decide +kernel
theorem dX6_putBytes_27 : decode cX6_putBytes 27 = .ok (.iastore, 1) := by decide +kernel
theorem dX6_putBytes_28 : decode cX6_putBytes 28 = .ok (.iinc 3 1, 3) := by decide +kernel
theorem dX6_putBytes_31 : decode cX6_putBytes 31 = .ok (.goto (-29), 3) := by decide +kernel
theorem dX6_putBytes_34 : decode cX6_putBytes 34 = .ok (.return_, 1) := by decide +kernel
def wpX6_putBytes_2 (C : CT) (I2 : Int32 → Int32 → Int32 → Mem → Prop)  (x1 : Int32) (x2 : Int32) (x3 : Int32) (V : Mem) (Q : Option AV → Mem → Prop) : Prop :=
  ((4 ≤ x3 → Q none V) ∧ (¬ 4 ≤ x3 → (∃ j_1 : Nat, (x2 + x3) = nI j_1 ∧ j_1 < 96 ∧ (∀ V_2 : Mem, V_2 = mu V 17 0 j_1 ((((x1).toUInt32 >>> (((24 - (8 * x3)) : Int32).toUInt32 &&& Int32.toUInt32 31)).toInt32) &&& 255) → I2 x1 x2 (x3 + 1) V_2))))
set_option maxRecDepth 10000 in
theorem okX6_putBytes_2 {d : Nat} {P : Option AV → Mem → Prop} {I2 : Int32 → Int32 → Int32 → Mem → Prop}   (x1 : Int32) (x2 : Int32) (x3 : Int32)  (V : Mem) (hk2 : ∀ (x1 : Int32) (x2 : Int32) (x3 : Int32), ∀ (V : Mem), I2 x1 x2 x3 V → Gq (Kp (d + 1) mX6_putBytes UX P) UX cX6_putBytes 4 RX6 2 [(0, aR 0 0), (1, aI x1), (2, aI x2), (3, aI x3)] [] V) (h : wpX6_putBytes_2 (Cl UX d) I2  x1 x2 x3 V P) : Gq (Kp (d + 1) mX6_putBytes UX P) UX cX6_putBytes 4 RX6 2 [(0, aR 0 0), (1, aI x1), (2, aI x2), (3, aI x3)] [] V := by
  unfold wpX6_putBytes_2 at h
  refine go_iload_n (q := 3) dX6_putBytes_2 rfl rfl ?_
  refine go_iconst (v := 4) dX6_putBytes_3 (by decide) ?_
  refine go_icmp_ge (tgt := 34) dX6_putBytes_4 (by decide) (fun c_3 => ?_) (fun c_3 => ?_)
  · have h := h.1 c_3
    exact go_vret rfl dX6_putBytes_34 h
  · have h := h.2 c_3
    refine go_aload_n (q := 0) dX6_putBytes_7 rfl rfl ?_
    refine go_getr fg_X6_35 dX6_putBytes_8 (mX (n := 1) (by decide) rfl (by omega)) ?_
    refine go_iload_n (q := 2) dX6_putBytes_11 rfl rfl ?_
    refine go_iload_n (q := 3) dX6_putBytes_12 rfl rfl ?_
    refine go_iadd dX6_putBytes_13 ?_
    refine go_iload_n (q := 1) dX6_putBytes_14 rfl rfl ?_
    refine go_bipush (v := 24) dX6_putBytes_15 (by decide) ?_
    refine go_bipush (v := 8) dX6_putBytes_17 (by decide) ?_
    refine go_iload_n (q := 3) dX6_putBytes_19 rfl rfl ?_
    refine go_imul dX6_putBytes_20 ?_
    refine go_isub dX6_putBytes_21 ?_
    refine go_iushr dX6_putBytes_22 ?_
    refine go_sipush (v := 255) dX6_putBytes_23 (by decide) ?_
    refine go_iand dX6_putBytes_26 ?_
    obtain ⟨j_1, e_j_1, l_j_1, h⟩ := h
    refine go_iast (r := 17) (n := 96) (j := j_1) rfl (by decide) dX6_putBytes_27 (mX (n := 1) (by decide) rfl (by omega)) e_j_1 l_j_1 ?_
    refine nmV (fun V_2 e_V_2 => ?_)
    have h := h V_2 e_V_2
    refine go_iinc (q := 3) (y := 1) (al1 := [(3, aI (x3 + 1)), (0, aR 0 0), (1, aI x1), (2, aI x2)]) dX6_putBytes_28 rfl (by decide) (by decide) rfl ?_
    refine go_goto (tgt := 2) dX6_putBytes_31 (by decide) ?_
    refine go_sub (al1 := [(0, aR 0 0), (1, aI x1), (2, aI x2), (3, aI (x3 + 1))]) [1, 2, 3, 0] rfl ?_
    exact hk2 x1 x2 (x3 + 1)  V_2 h
def wpX6_putBytes_0 (C : CT) (I2 : Int32 → Int32 → Int32 → Mem → Prop)  (x1 : Int32) (x2 : Int32) (V : Mem) (Q : Option AV → Mem → Prop) : Prop :=
  I2 x1 x2 0 V
set_option maxRecDepth 10000 in
theorem okX6_putBytes_0 {d : Nat} {P : Option AV → Mem → Prop} {I2 : Int32 → Int32 → Int32 → Mem → Prop}   (x1 : Int32) (x2 : Int32)  (V : Mem) (hk2 : ∀ (x1 : Int32) (x2 : Int32) (x3 : Int32), ∀ (V : Mem), I2 x1 x2 x3 V → Gq (Kp (d + 1) mX6_putBytes UX P) UX cX6_putBytes 4 RX6 2 [(0, aR 0 0), (1, aI x1), (2, aI x2), (3, aI x3)] [] V) (h : wpX6_putBytes_0 (Cl UX d) I2  x1 x2 V P) : Gq (Kp (d + 1) mX6_putBytes UX P) UX cX6_putBytes 4 RX6 0 [(0, aR 0 0), (1, aI x1), (2, aI x2)] [] V := by
  unfold wpX6_putBytes_0 at h
  refine go_iconst (v := 0) dX6_putBytes_0 (by decide) ?_
  refine go_istore_n (al1 := [(3, aI 0), (0, aR 0 0), (1, aI x1), (2, aI x2)]) dX6_putBytes_1 rfl (by decide) rfl ?_
  refine go_sub (al1 := [(0, aR 0 0), (1, aI x1), (2, aI x2), (3, aI 0)]) [1, 2, 3, 0] rfl ?_
  exact hk2 x1 x2 0  V h
theorem clX6_putBytes {d : Nat} {P : Option AV → Mem → Prop} {I2 : Int32 → Int32 → Int32 → Mem → Prop}   (x1 : Int32) (x2 : Int32) (V : Mem) (hk2 : ∀ (x1 : Int32) (x2 : Int32) (x3 : Int32), ∀ (V : Mem), I2 x1 x2 x3 V → Gq (Kp (d + 1) mX6_putBytes UX P) UX cX6_putBytes 4 RX6 2 [(0, aR 0 0), (1, aI x1), (2, aI x2), (3, aI x3)] [] V) (h : wpX6_putBytes_0 (Cl UX d) I2  x1 x2 V P) : Cl UX (d + 1) mX6_putBytes [aR 0 0, aI x1, aI x2] V P :=
  cl_of [(0, aR 0 0), (1, aI x1), (2, aI x2)] (by decide) (fun _ => Nat.le_of_ble_eq_true rfl) (fun _ => rfl) (okX6_putBytes_0   x1 x2 V hk2 h)
theorem dX6_isWaiting_0 : decode cX6_isWaiting 0 = .ok (.iload_n 1, 1) := by decide +kernel
theorem dX6_isWaiting_1 : decode cX6_isWaiting 1 = .ok (.iload_n 2, 1) := by decide +kernel
theorem dX6_isWaiting_2 : decode cX6_isWaiting 2 = .ok (.if_icmp .ge 17, 3) := by decide +kernel
theorem dX6_isWaiting_5 : decode cX6_isWaiting 5 = .ok (.aload_n 0, 1) := by decide +kernel
theorem dX6_isWaiting_6 : decode cX6_isWaiting 6 = .ok (.getfield 64, 3) := by decide +kernel
theorem dX6_isWaiting_9 : decode cX6_isWaiting 9 = .ok (.iload_n 1, 1) := by decide +kernel
theorem dX6_isWaiting_10 : decode cX6_isWaiting 10 = .ok (.iaload, 1) := by decide +kernel
theorem dX6_isWaiting_11 : decode cX6_isWaiting 11 = .ok (.iload_n 3, 1) := by decide +kernel
theorem dX6_isWaiting_12 : decode cX6_isWaiting 12 = .ok (.if_icmp .ne 7, 3) := by decide +kernel
theorem dX6_isWaiting_15 : decode cX6_isWaiting 15 = .ok (.iconst 1, 1) := by decide +kernel
theorem dX6_isWaiting_16 : decode cX6_isWaiting 16 = .ok (.goto 4, 3) := by decide +kernel
theorem dX6_isWaiting_19 : decode cX6_isWaiting 19 = .ok (.iconst 0, 1) := by decide +kernel
theorem dX6_isWaiting_20 : decode cX6_isWaiting 20 = .ok (.ireturn, 1) := by decide +kernel
def wpX6_isWaiting_0 (C : CT)   (x1 : Int32) (x2 : Int32) (x3 : Int32) (V : Mem) (Q : Option AV → Mem → Prop) : Prop :=
  ((x2 ≤ x1 → Q (some (aI 0)) V) ∧ (¬ x2 ≤ x1 → (∃ j_1 : Nat, x1 = nI j_1 ∧ j_1 < 60 ∧ ((¬ (V 21 0 j_1) = x3 → Q (some (aI 0)) V) ∧ ((V 21 0 j_1) = x3 → Q (some (aI 1)) V)))))
set_option maxRecDepth 10000 in
theorem okX6_isWaiting_0 {d : Nat} {P : Option AV → Mem → Prop}    (x1 : Int32) (x2 : Int32) (x3 : Int32)  (V : Mem)  (h : wpX6_isWaiting_0 (Cl UX d)   x1 x2 x3 V P) : Gq (Kp (d + 1) mX6_isWaiting UX P) UX cX6_isWaiting 4 RX6 0 [(0, aR 0 0), (1, aI x1), (2, aI x2), (3, aI x3)] [] V := by
  unfold wpX6_isWaiting_0 at h
  refine go_iload_n (q := 1) dX6_isWaiting_0 rfl rfl ?_
  refine go_iload_n (q := 2) dX6_isWaiting_1 rfl rfl ?_
  refine go_icmp_ge (tgt := 19) dX6_isWaiting_2 (by decide) (fun c_3 => ?_) (fun c_3 => ?_)
  · have h := h.1 c_3
    refine go_iconst (v := 0) dX6_isWaiting_19 (by decide) ?_
    exact go_bret rfl dX6_isWaiting_20 (by decide) h
  · have h := h.2 c_3
    refine go_aload_n (q := 0) dX6_isWaiting_5 rfl rfl ?_
    refine go_getr fg_X6_64 dX6_isWaiting_6 (mX (n := 1) (by decide) rfl (by omega)) ?_
    refine go_iload_n (q := 1) dX6_isWaiting_9 rfl rfl ?_
    obtain ⟨j_1, e_j_1, l_j_1, h⟩ := h
    refine go_iald (r := 21) (n := 60) (j := j_1) rfl (by decide) dX6_isWaiting_10 (mX (n := 1) (by decide) rfl (by omega)) e_j_1 l_j_1 ?_
    refine go_iload_n (q := 3) dX6_isWaiting_11 rfl rfl ?_
    refine go_icmp_ne (tgt := 19) dX6_isWaiting_12 (by decide) (fun c_2 => ?_) (fun c_2 => ?_)
    · have h := h.1 c_2
      refine go_iconst (v := 0) dX6_isWaiting_19 (by decide) ?_
      exact go_bret rfl dX6_isWaiting_20 (by decide) h
    · have h := h.2 c_2
      refine go_iconst (v := 1) dX6_isWaiting_15 (by decide) ?_
      refine go_goto (tgt := 20) dX6_isWaiting_16 (by decide) ?_
      exact go_bret rfl dX6_isWaiting_20 (by decide) h
theorem clX6_isWaiting {d : Nat} {P : Option AV → Mem → Prop}    (x1 : Int32) (x2 : Int32) (x3 : Int32) (V : Mem)  (h : wpX6_isWaiting_0 (Cl UX d)   x1 x2 x3 V P) : Cl UX (d + 1) mX6_isWaiting [aR 0 0, aI x1, aI x2, aI x3] V P :=
  cl_of [(0, aR 0 0), (1, aI x1), (2, aI x2), (3, aI x3)] (by decide) (fun _ => Nat.le_of_ble_eq_true rfl) (fun _ => rfl) (okX6_isWaiting_0   x1 x2 x3 V  h)
