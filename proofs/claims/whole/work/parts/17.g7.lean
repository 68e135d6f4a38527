theorem dX7_mark_0 : decode cX7_mark 0 = .ok (.iload_n 1, 1) := by decide +kernel
theorem dX7_mark_1 : decode cX7_mark 1 = .ok (.invokestatic 177, 3) := by decide +kernel
theorem dX7_mark_4 : decode cX7_mark 4 = .ok (.ifCond .ne 6, 3) := by decide +kernel
theorem dX7_mark_7 : decode cX7_mark 7 = .ok (.ldc 84, 2) := by decide +kernel
theorem dX7_mark_9 : decode cX7_mark 9 = .ok (.ireturn, 1) := by decide +kernel
theorem dX7_mark_10 : decode cX7_mark 10 = .ok (.aload_n 0, 1) := by decide +kernel
theorem dX7_mark_11 : decode cX7_mark 11 = .ok (.getfield 48, 3) := by decide +kernel
theorem dX7_mark_14 : decode cX7_mark 14 = .ok (.iload_n 1, 1) := by decide +kernel
theorem dX7_mark_15 : decode cX7_mark 15 = .ok (.iaload, 1) := by decide +kernel
theorem dX7_mark_16 : decode cX7_mark 16 = .ok (.ifCond .ge 6, 3) := by decide +kernel
theorem dX7_mark_19 : decode cX7_mark 19 = .ok (.ldc 180, 2) := by decide +kernel
theorem dX7_mark_21 : decode cX7_mark 21 = .ok (.ireturn, 1) := by decide +kernel
theorem dX7_mark_22 : decode cX7_mark 22 = .ok (.iload_n 2, 1) := by decide +kernel
theorem dX7_mark_23 : decode cX7_mark 23 = .ok (.iconst 0, 1) := by decide +kernel
theorem dX7_mark_24 : decode cX7_mark 24 = .ok (.aload_n 0, 1) := by decide +kernel
theorem dX7_mark_25 : decode cX7_mark 25 = .ok (.getfield 51, 3) := by decide +kernel
theorem dX7_mark_28 : decode cX7_mark 28 = .ok (.iload_n 1, 1) := by decide +kernel
theorem dX7_mark_29 : decode cX7_mark 29 = .ok (.iaload, 1) := by decide +kernel
theorem dX7_mark_30 : decode cX7_mark 30 = .ok (.iconst 1, 1) := by decide +kernel
theorem dX7_mark_31 : decode cX7_mark 31 = .ok (.isub, 1) := by decide +kernel
theorem dX7_mark_32 : decode cX7_mark 32 = .ok (.invokestatic 76, 3) := by decide +kernel
theorem dX7_mark_35 : decode cX7_mark 35 = .ok (.ifCond .ne 6, 3) := by decide +kernel
theorem dX7_mark_38 : decode cX7_mark 38 = .ok (.ldc 255, 2) := by decide +kernel
theorem dX7_mark_40 : decode cX7_mark 40 = .ok (.ireturn, 1) := by decide +kernel
theorem dX7_mark_41 : decode cX7_mark 41 = .ok (.aload_n 0, 1) := by decide +kernel
theorem dX7_mark_42 : decode cX7_mark 42 = .ok (.getfield 48, 3) := by decide +kernel
theorem dX7_mark_45 : decode cX7_mark 45 = .ok (.iload_n 1, 1) := by decide +kernel
theorem dX7_mark_46 : decode cX7_mark 46 = .ok (.iaload, 1) := by decide +kernel
theorem dX7_mark_47 : decode cX7_mark 47 = .ok (.ifCond .ne 12, 3) := by decide +kernel
theorem dX7_mark_50 : decode cX7_mark 50 = .ok (.iload_n 3, 1) := by decide +kernel
theorem dX7_mark_51 : decode cX7_mark 51 = .ok (.ldc 75, 2) := by decide +kernel
theorem dX7_mark_53 : decode cX7_mark 53 = .ok (.if_icmp .ne 6, 3) := by decide +kernel
theorem dX7_mark_56 : decode cX7_mark 56 = .ok (.ldc 131, 2) := by decide +kernel
theorem dX7_mark_58 : decode cX7_mark 58 = .ok (.ireturn, 1) := by decide +kernel
theorem dX7_mark_59 : decode cX7_mark 59 = .ok (.aload_n 0, 1) := by decide +kernel
theorem dX7_mark_60 : decode cX7_mark 60 = .ok (.getfield 48, 3) := by decide +kernel
theorem dX7_mark_63 : decode cX7_mark 63 = .ok (.iload_n 1, 1) := by decide +kernel
theorem dX7_mark_64 : decode cX7_mark 64 = .ok (.iaload, 1) := by decide +kernel
theorem dX7_mark_65 : decode cX7_mark 65 = .ok (.iconst 1, 1) := by decide +kernel
theorem dX7_mark_66 : decode cX7_mark 66 = .ok (.if_icmp .ne 24, 3) := by decide +kernel
theorem dX7_mark_69 : decode cX7_mark 69 = .ok (.iload_n 3, 1) := by decide +kernel
theorem dX7_mark_70 : decode cX7_mark 70 = .ok (.ldc 75, 2) := by decide +kernel
theorem dX7_mark_72 : decode cX7_mark 72 = .ok (.if_icmp .eq 18, 3) := by decide +kernel
theorem dX7_mark_75 : decode cX7_mark 75 = .ok (.iload_n 3, 1) := by decide +kernel
theorem dX7_mark_76 : decode cX7_mark 76 = .ok (.ldc_w 256, 3) := by decide +kernel
theorem dX7_mark_79 : decode cX7_mark 79 = .ok (.ldc 173, 2) := by decide +kernel
theorem dX7_mark_81 : decode cX7_mark 81 = .ok (.invokestatic 76, 3) := by decide +kernel
theorem dX7_mark_84 : decode cX7_mark 84 = .ok (.ifCond .ne 6, 3) := by decide +kernel
theorem dX7_mark_87 : decode cX7_mark 87 = .ok (.ldc 84, 2) := by decide +kernel
theorem dX7_mark_89 : decode cX7_mark 89 = .ok (.ireturn, 1) := by decide +kernel
theorem dX7_mark_90 : decode cX7_mark 90 = .ok (.aload_n 0, 1) := by decide +kernel
theorem dX7_mark_91 : decode cX7_mark 91 = .ok (.getfield 54, 3) := by decide +kernel
theorem dX7_mark_94 : decode cX7_mark 94 = .ok (.bipush 24, 2) := by decide +kernel
theorem dX7_mark_96 : decode cX7_mark 96 = .ok (.iload_n 1, 1) := by decide +kernel
theorem dX7_mark_97 : decode cX7_mark 97 = .ok (.imul, 1) := by decide +kernel
theorem dX7_mark_98 : decode cX7_mark 98 = .ok (.iload_n 2, 1) := by decide +kernel
theorem dX7_mark_99 : decode cX7_mark 99 = .ok (.iadd, 1) := by decide +kernel
theorem dX7_mark_100 : decode cX7_mark 100 = .ok (.aload_n 0, 1) := by decide +kernel
theorem dX7_mark_101 : decode cX7_mark 101 = .ok (.getfield 48, 3) := by decide +kernel
theorem dX7_mark_104 : decode cX7_mark 104 = .ok (.iload_n 1, 1) := by decide +kernel
theorem dX7_mark_105 : decode cX7_mark 105 = .ok (.iaload, 1) := by decide +kernel
theorem dX7_mark_106 : decode cX7_mark 106 = .ok (.ifCond .ne 8, 3) := by decide +kernel
theorem dX7_mark_109 : decode cX7_mark 109 = .ok (.iload_n 3, 1) := by decide +kernel
theorem dX7_mark_110 : decode cX7_mark 110 = .ok (.i2s, 1) := by decide +kernel
theorem dX7_mark_111 : decode cX7_mark 111 = .ok (.goto 4, 3) := by decide +kernel
theorem dX7_mark_114 : decode cX7_mark 114 = .ok (.iload_n 3, 1) := by decide +kernel
theorem dX7_mark_115 : decode cX7_mark 115 = .ok (.iastore, 1) := by decide +kernel
theorem dX7_mark_116 : decode cX7_mark 116 = .ok (.iconst 1, 1) := by decide +kernel
theorem dX7_mark_117 : decode cX7_mark 117 = .ok (.ireturn, 1) := by decide +kernel
def wpX7_mark_90 (C : CT)   (x1 : Int32) (x2 : Int32) (x3 : Int32) (V : Mem) (Q : Option AV → Mem → Prop) : Prop :=
  (∃ j_1 : Nat, x1 = nI j_1 ∧ j_1 < 4 ∧ ((¬ (V 37 0 j_1) = 0 → (∃ j_2 : Nat, ((24 * x1) + x2) = nI j_2 ∧ j_2 < 96 ∧ (∀ V_3 : Mem, V_3 = mu V 39 0 j_2 x3 → Q (some (aI 1)) V_3))) ∧ ((V 37 0 j_1) = 0 → (∃ j_4 : Nat, ((24 * x1) + x2) = nI j_4 ∧ j_4 < 96 ∧ (∀ V_5 : Mem, V_5 = mu V 39 0 j_4 ((x3 : Int32).toInt16.toInt32) → Q (some (aI 1)) V_5)))))
set_option maxRecDepth 10000 in
theorem okX7_mark_90 {d : Nat} {P : Option AV → Mem → Prop}    (x1 : Int32) (x2 : Int32) (x3 : Int32)  (V : Mem)  (h : wpX7_mark_90 (Cl UM d)   x1 x2 x3 V P) : Gq (Kp (d + 1) mX7_mark UM P) UM cX7_mark 4 RX7 90 [(0, aR 24 0), (1, aI x1), (2, aI x2), (3, aI x3)] [] V := by
  unfold wpX7_mark_90 at h
  refine go_aload_n (q := 0) dX7_mark_90 rfl rfl ?_
  refine go_getr fg_X7_54 dX7_mark_91 (mM (by decide) (by decide) rfl) ?_
  refine go_bipush (v := 24) dX7_mark_94 (by decide) ?_
  refine go_iload_n (q := 1) dX7_mark_96 rfl rfl ?_
  refine go_imul dX7_mark_97 ?_
  refine go_iload_n (q := 2) dX7_mark_98 rfl rfl ?_
  refine go_iadd dX7_mark_99 ?_
  refine go_aload_n (q := 0) dX7_mark_100 rfl rfl ?_
  refine go_getr fg_X7_48 dX7_mark_101 (mM (by decide) (by decide) rfl) ?_
  refine go_iload_n (q := 1) dX7_mark_104 rfl rfl ?_
  obtain ⟨j_1, e_j_1, l_j_1, h⟩ := h
  refine go_iald (r := 37) (n := 4) (j := j_1) rfl (by decide) dX7_mark_105 (mM (by decide) (by decide) rfl) e_j_1 l_j_1 ?_
  refine go_if_ne (tgt := 114) dX7_mark_106 (by decide) (fun c_6 => ?_) (fun c_6 => ?_)
  · have h := h.1 c_6
    refine go_iload_n (q := 3) dX7_mark_114 rfl rfl ?_
    obtain ⟨j_2, e_j_2, l_j_2, h⟩ := h
    refine go_iast (r := 39) (n := 96) (j := j_2) rfl (by decide) dX7_mark_115 (mM (by decide) (by decide) rfl) e_j_2 l_j_2 ?_
    refine nmV (fun V_3 e_V_3 => ?_)
    have h := h V_3 e_V_3
    refine go_iconst (v := 1) dX7_mark_116 (by decide) ?_
    exact go_iret rfl dX7_mark_117 h
  · have h := h.2 c_6
    refine go_iload_n (q := 3) dX7_mark_109 rfl rfl ?_
    refine go_i2s dX7_mark_110 ?_
    refine go_goto (tgt := 115) dX7_mark_111 (by decide) ?_
    obtain ⟨j_4, e_j_4, l_j_4, h⟩ := h
    refine go_iast (r := 39) (n := 96) (j := j_4) rfl (by decide) dX7_mark_115 (mM (by decide) (by decide) rfl) e_j_4 l_j_4 ?_
    refine nmV (fun V_5 e_V_5 => ?_)
    have h := h V_5 e_V_5
    refine go_iconst (v := 1) dX7_mark_116 (by decide) ?_
    exact go_iret rfl dX7_mark_117 h
def wpX7_mark_59 (C : CT)   (x1 : Int32) (x2 : Int32) (x3 : Int32) (V : Mem) (Q : Option AV → Mem → Prop) : Prop :=
  (∃ j_1 : Nat, x1 = nI j_1 ∧ j_1 < 4 ∧ ((¬ (V 37 0 j_1) = 1 → wpX7_mark_90 C   x1 x2 x3 V Q) ∧ ((V 37 0 j_1) = 1 → ((x3 = (-1000000005) → wpX7_mark_90 C   x1 x2 x3 V Q) ∧ (¬ x3 = (-1000000005) → (cI C mX7_in [aI x3, aI (-99999), aI 99999] V (fun x_3 V_2 => ((¬ x_3 = 0 → wpX7_mark_90 C   x1 x2 x3 V_2 Q) ∧ (x_3 = 0 → Q (some (aI (-1000000001))) V_2)))))))))
set_option maxRecDepth 10000 in
theorem okX7_mark_59 {d : Nat} {P : Option AV → Mem → Prop}    (x1 : Int32) (x2 : Int32) (x3 : Int32)  (V : Mem)  (h : wpX7_mark_59 (Cl UM d)   x1 x2 x3 V P) : Gq (Kp (d + 1) mX7_mark UM P) UM cX7_mark 4 RX7 59 [(0, aR 24 0), (1, aI x1), (2, aI x2), (3, aI x3)] [] V := by
  unfold wpX7_mark_59 at h
  refine go_aload_n (q := 0) dX7_mark_59 rfl rfl ?_
  refine go_getr fg_X7_48 dX7_mark_60 (mM (by decide) (by decide) rfl) ?_
  refine go_iload_n (q := 1) dX7_mark_63 rfl rfl ?_
  obtain ⟨j_1, e_j_1, l_j_1, h⟩ := h
  refine go_iald (r := 37) (n := 4) (j := j_1) rfl (by decide) dX7_mark_64 (mM (by decide) (by decide) rfl) e_j_1 l_j_1 ?_
  refine go_iconst (v := 1) dX7_mark_65 (by decide) ?_
  refine go_icmp_ne (tgt := 90) dX7_mark_66 (by decide) (fun c_6 => ?_) (fun c_6 => ?_)
  · have h := h.1 c_6
    exact okX7_mark_90   x1 x2 x3  V  h
  · have h := h.2 c_6
    refine go_iload_n (q := 3) dX7_mark_69 rfl rfl ?_
    refine go_ldc dX7_mark_70 ct_X7_75 ?_
    refine go_icmp_eq (tgt := 90) dX7_mark_72 (by decide) (fun c_5 => ?_) (fun c_5 => ?_)
    · have h := h.1 c_5
      exact okX7_mark_90   x1 x2 x3  V  h
    · have h := h.2 c_5
      refine go_iload_n (q := 3) dX7_mark_75 rfl rfl ?_
      refine go_ldcw dX7_mark_76 ct_X7_256 ?_
      refine go_ldc dX7_mark_79 ct_X7_173 ?_
      refine go_cSI (As := [aI x3, aI (-99999), aI 99999]) (st := []) ms_X7_in dX7_mark_81 ml_X7_76 (hr_Kp (Nat.le_refl d)) rfl rfl (Nat.le_of_ble_eq_true rfl) h (fun x_3 V_2 h => ?_)
      refine go_if_ne (tgt := 90) dX7_mark_84 (by decide) (fun c_4 => ?_) (fun c_4 => ?_)
      · have h := h.1 c_4
        exact okX7_mark_90   x1 x2 x3  V_2  h
      · have h := h.2 c_4
        refine go_ldc dX7_mark_87 ct_X7_84 ?_
        exact go_iret rfl dX7_mark_89 h
def wpX7_mark_0 (C : CT)   (x1 : Int32) (x2 : Int32) (x3 : Int32) (V : Mem) (Q : Option AV → Mem → Prop) : Prop :=
  (cI C mX7_isSheet [aI x1] V (fun x_2 V_1 => ((¬ x_2 = 0 → (∃ j_3 : Nat, x1 = nI j_3 ∧ j_3 < 4 ∧ ((0 ≤ (V_1 37 0 j_3) → (cI C mX7_in [aI x2, aI 0, aI ((V_1 38 0 j_3) - 1)] V_1 (fun x_5 V_4 => ((¬ x_5 = 0 → ((¬ (V_4 37 0 j_3) = 0 → wpX7_mark_59 C   x1 x2 x3 V_4 Q) ∧ ((V_4 37 0 j_3) = 0 → ((¬ x3 = (-1000000005) → wpX7_mark_59 C   x1 x2 x3 V_4 Q) ∧ (x3 = (-1000000005) → Q (some (aI (-1000000012))) V_4))))) ∧ (x_5 = 0 → Q (some (aI (-1000000013))) V_4))))) ∧ (¬ 0 ≤ (V_1 37 0 j_3) → Q (some (aI (-1000000011))) V_1)))) ∧ (x_2 = 0 → Q (some (aI (-1000000001))) V_1))))
set_option maxRecDepth 10000 in
theorem okX7_mark_0 {d : Nat} {P : Option AV → Mem → Prop}    (x1 : Int32) (x2 : Int32) (x3 : Int32)  (V : Mem)  (h : wpX7_mark_0 (Cl UM d)   x1 x2 x3 V P) : Gq (Kp (d + 1) mX7_mark UM P) UM cX7_mark 4 RX7 0 [(0, aR 24 0), (1, aI x1), (2, aI x2), (3, aI x3)] [] V := by
  unfold wpX7_mark_0 at h
  refine go_iload_n (q := 1) dX7_mark_0 rfl rfl ?_
  refine go_cSI (As := [aI x1]) (st := []) ms_X7_isSheet dX7_mark_1 ml_X7_177 (hr_Kp (Nat.le_refl d)) rfl rfl (Nat.le_of_ble_eq_true rfl) h (fun x_2 V_1 h => ?_)
  refine go_if_ne (tgt := 10) dX7_mark_4 (by decide) (fun c_10 => ?_) (fun c_10 => ?_)
  · have h := h.1 c_10
    refine go_aload_n (q := 0) dX7_mark_10 rfl rfl ?_
    refine go_getr fg_X7_48 dX7_mark_11 (mM (by decide) (by decide) rfl) ?_
    refine go_iload_n (q := 1) dX7_mark_14 rfl rfl ?_
    obtain ⟨j_3, e_j_3, l_j_3, h⟩ := h
    refine go_iald (r := 37) (n := 4) (j := j_3) rfl (by decide) dX7_mark_15 (mM (by decide) (by decide) rfl) e_j_3 l_j_3 ?_
    refine go_if_ge (tgt := 22) dX7_mark_16 (by decide) (fun c_9 => ?_) (fun c_9 => ?_)
    · have h := h.1 c_9
      refine go_iload_n (q := 2) dX7_mark_22 rfl rfl ?_
      refine go_iconst (v := 0) dX7_mark_23 (by decide) ?_
      refine go_aload_n (q := 0) dX7_mark_24 rfl rfl ?_
      refine go_getr fg_X7_51 dX7_mark_25 (mM (by decide) (by decide) rfl) ?_
      refine go_iload_n (q := 1) dX7_mark_28 rfl rfl ?_
      refine go_iald (r := 38) (n := 4) (j := j_3) rfl (by decide) dX7_mark_29 (mM (by decide) (by decide) rfl) e_j_3 (by omega) ?_
      refine go_iconst (v := 1) dX7_mark_30 (by decide) ?_
      refine go_isub dX7_mark_31 ?_
      refine go_cSI (As := [aI x2, aI 0, aI ((V_1 38 0 j_3) - 1)]) (st := []) ms_X7_in dX7_mark_32 ml_X7_76 (hr_Kp (Nat.le_refl d)) rfl rfl (Nat.le_of_ble_eq_true rfl) h (fun x_5 V_4 h => ?_)
      refine go_if_ne (tgt := 41) dX7_mark_35 (by decide) (fun c_8 => ?_) (fun c_8 => ?_)
      · have h := h.1 c_8
        refine go_aload_n (q := 0) dX7_mark_41 rfl rfl ?_
        refine go_getr fg_X7_48 dX7_mark_42 (mM (by decide) (by decide) rfl) ?_
        refine go_iload_n (q := 1) dX7_mark_45 rfl rfl ?_
        refine go_iald (r := 37) (n := 4) (j := j_3) rfl (by decide) dX7_mark_46 (mM (by decide) (by decide) rfl) e_j_3 (by omega) ?_
        refine go_if_ne (tgt := 59) dX7_mark_47 (by decide) (fun c_7 => ?_) (fun c_7 => ?_)
        · have h := h.1 c_7
          exact okX7_mark_59   x1 x2 x3  V_4  h
        · have h := h.2 c_7
          refine go_iload_n (q := 3) dX7_mark_50 rfl rfl ?_
          refine go_ldc dX7_mark_51 ct_X7_75 ?_
          refine go_icmp_ne (tgt := 59) dX7_mark_53 (by decide) (fun c_6 => ?_) (fun c_6 => ?_)
          · have h := h.1 c_6
            exact okX7_mark_59   x1 x2 x3  V_4  h
          · have h := h.2 c_6
            refine go_ldc dX7_mark_56 ct_X7_131 ?_
            exact go_iret rfl dX7_mark_58 h
      · have h := h.2 c_8
        refine go_ldc dX7_mark_38 ct_X7_255 ?_
        exact go_iret rfl dX7_mark_40 h
    · have h := h.2 c_9
      refine go_ldc dX7_mark_19 ct_X7_180 ?_
      exact go_iret rfl dX7_mark_21 h
  · have h := h.2 c_10
    refine go_ldc dX7_mark_7 ct_X7_84 ?_
    exact go_iret rfl dX7_mark_9 h
theorem clX7_mark {d : Nat} {P : Option AV → Mem → Prop}    (x1 : Int32) (x2 : Int32) (x3 : Int32) (V : Mem)  (h : wpX7_mark_0 (Cl UM d)   x1 x2 x3 V P) : Cl UM (d + 1) mX7_mark [aR 24 0, aI x1, aI x2, aI x3] V P :=
  cl_of [(0, aR 24 0), (1, aI x1), (2, aI x2), (3, aI x3)] (by decide) (fun _ => Nat.le_of_ble_eq_true rfl) (fun _ => rfl) (okX7_mark_0   x1 x2 x3 V  h)
theorem dX7_pour_0 : decode cX7_pour 0 = .ok (.iload_n 1, 1) := by decide +kernel
theorem dX7_pour_1 : decode cX7_pour 1 = .ok (.invokestatic 177, 3) := by decide +kernel
theorem dX7_pour_4 : decode cX7_pour 4 = .ok (.ifCond .ne 6, 3) := by decide +kernel
theorem dX7_pour_7 : decode cX7_pour 7 = .ok (.ldc 84, 2) := by decide +kernel
theorem dX7_pour_9 : decode cX7_pour 9 = .ok (.ireturn, 1) := by decide +kernel
theorem dX7_pour_10 : decode cX7_pour 10 = .ok (.aload_n 0, 1) := by decide +kernel
theorem dX7_pour_11 : decode cX7_pour 11 = .ok (.getfield 48, 3) := by decide +kernel
theorem dX7_pour_14 : decode cX7_pour 14 = .ok (.iload_n 1, 1) := by decide +kernel
theorem dX7_pour_15 : decode cX7_pour 15 = .ok (.iaload, 1) := by decide +kernel
theorem dX7_pour_16 : decode cX7_pour 16 = .ok (.ifCond .ge 6, 3) := by decide +kernel
theorem dX7_pour_19 : decode cX7_pour 19 = .ok (.ldc 180, 2) := by decide +kernel
theorem dX7_pour_21 : decode cX7_pour 21 = .ok (.ireturn, 1) := by decide +kernel
theorem dX7_pour_22 : decode cX7_pour 22 = .ok (.iconst 0, 1) := by decide +kernel
theorem dX7_pour_23 : decode cX7_pour 23 = .ok (.istore_n 2, 1) := by decide +kernel
theorem dX7_pour_24 : decode cX7_pour 24 = .ok (.iconst 0, 1) := by decide +kernel
theorem dX7_pour_25 : decode cX7_pour 25 = .ok (.istore_n 3, 1) := by decide +kernel
theorem dX7_pour_26 : decode cX7_pour 26 = .ok (.iload_n 3, 1) := by decide +kernel
theorem dX7_pour_27 : decode cX7_pour 27 = .ok (.aload_n 0, 1) := by decide +kernel
theorem dX7_pour_28 : decode cX7_pour 28 = .ok (.getfield 51, 3) := by decide +kernel
theorem dX7_pour_31 : decode cX7_pour 31 = .ok (.iload_n 1, 1) := by decide +kernel
theorem dX7_pour_32 : decode cX7_pour 32 = .ok (.iaload, 1) := by decide +kernel
theorem dX7_pour_33 : decode cX7_pour 33 = .ok (.if_icmp .ge 74, 3) := by decide +kernel
theorem dX7_pour_36 : decode cX7_pour 36 = .ok (.aload_n 0, 1) := by decide +kernel
theorem dX7_pour_37 : decode cX7_pour 37 = .ok (.getfield 54, 3) := by decide +kernel
theorem dX7_pour_40 : decode cX7_pour 40 = .ok (.bipush 24, 2) := by decide +kernel
theorem dX7_pour_42 : decode cX7_pour 42 = .ok (.iload_n 1, 1) := by decide +kernel
theorem dX7_pour_43 : decode cX7_pour 43 = .ok (.imul, 1) := by decide +kernel
theorem dX7_pour_44 : decode cX7_pour 44 = .ok (.iload_n 3, 1) := by decide +kernel
theorem dX7_pour_45 : decode cX7_pour 45 = .ok (.iadd, 1) := by decide +kernel
theorem dX7_pour_46 : decode cX7_pour 46 = .ok (.iaload, 1) := by decide +kernel
theorem dX7_pour_47 : decode cX7_pour 47 = .ok (.istore 4, 2) := by decide +kernel
theorem dX7_pour_49 : decode cX7_pour 49 = .ok (.iload 4, 2) := by decide +kernel
theorem dX7_pour_51 : decode cX7_pour 51 = .ok (.ldc 75, 2) := by decide +kernel
theorem dX7_pour_53 : decode cX7_pour 53 = .ok (.if_icmp .ne 15, 3) := by decide +kernel
theorem dX7_pour_56 : decode cX7_pour 56 = .ok (.aload_n 0, 1) := by decide +kernel
theorem dX7_pour_57 : decode cX7_pour 57 = .ok (.getfield 9, 3) := by decide +kernel
theorem dX7_pour_60 : decode cX7_pour 60 = .ok (.bipush 35, 2) := by decide +kernel
theorem dX7_pour_62 : decode cX7_pour 62 = .ok (.iload_n 3, 1) := by decide +kernel
theorem dX7_pour_63 : decode cX7_pour 63 = .ok (.iadd, 1) := by decide +kernel
theorem dX7_pour_64 : decode cX7_pour 64 = .ok (.iaload, 1) := by decide +kernel
theorem dX7_pour_65 : decode cX7_pour 65 = .ok (.goto 11, 3) := by decide +kernel
theorem dX7_pour_68 : decode cX7_pour 68 = .ok (.iload 4, 2) := by decide +kernel
theorem dX7_pour_70 : decode cX7_pour 70 = .ok (.iconst 0, 1) := by decide +kernel
theorem dX7_pour_71 : decode cX7_pour 71 = .ok (.bipush 9, 2) := by decide +kernel
theorem dX7_pour_73 : decode cX7_pour 73 = .ok (.invokestatic 104, 3) := by decide +kernel
theorem dX7_pour_76 : decode cX7_pour 76 = .ok (.istore 5, 2) := by decide +kernel
theorem dX7_pour_78 : decode cX7_pour 78 = .ok (.iload_n 2, 1) := by decide +kernel
theorem dX7_pour_79 : decode cX7_pour 79 = .ok (.aload_n 0, 1) := by decide +kernel
theorem dX7_pour_80 : decode cX7_pour 80 = .ok (.bipush 35, 2) := by decide +kernel
theorem dX7_pour_82 : decode cX7_pour 82 = .ok (.iload_n 3, 1) := by decide +kernel
theorem dX7_pour_83 : decode cX7_pour 83 = .ok (.iadd, 1) := by decide +kernel
theorem dX7_pour_84 : decode cX7_pour 84 = .ok (.iload 5, 2) := by decide +kernel
theorem dX7_pour_86 : decode cX7_pour 86 = .ok (.invokevirtual 132, 3) := by decide +kernel
theorem dX7_pour_89 : decode cX7_pour 89 = .ok (.iload 5, 2) := by decide +kernel
theorem dX7_pour_91 : decode cX7_pour 91 = .ok (.if_icmp .ne 7, 3) := by decide +kernel
theorem dX7_pour_94 : decode cX7_pour 94 = .ok (.iconst 0, 1) := by decide +kernel
theorem dX7_pour_95 : decode cX7_pour 95 = .ok (.goto 4, 3) := by decide +kernel
theorem dX7_pour_98 : decode cX7_pour 98 = .ok (.iconst 1, 1) := by decide +kernel
theorem dX7_pour_99 : decode cX7_pour 99 = .ok (.iadd, 1) := by decide +kernel
theorem dX7_pour_100 : decode cX7_pour 100 = .ok (.istore_n 2, 1) := by decide +kernel
theorem dX7_pour_101 : decode cX7_pour 101 = .ok (.iinc 3 1, 3) := by decide +kernel
theorem dX7_pour_104 : decode cX7_pour 104 = .ok (.goto (-78), 3) := by decide +kernel
theorem dX7_pour_107 : decode cX7_pour 107 = .ok (.iload_n 2, 1) := by decide +kernel
theorem dX7_pour_108 : decode cX7_pour 108 = .ok (.ireturn, 1) := by decide +kernel
def wpX7_pour_76 (C : CT) (I26 : Int32 → Int32 → Int32 → Mem → Prop)  (x1 : Int32) (x2 : Int32) (x3 : Int32) (x4 : Int32) (s0 : Int32) (V : Mem) (Q : Option AV → Mem → Prop) : Prop :=
  (cI C mX7_becomes [aR 24 0, aI (35 + x3), aI s0] V (fun x_2 V_1 => ((¬ x_2 = s0 → (∀ z_3 : Int32, z_3 = (x2 + 1) → I26 x1 z_3 (x3 + 1) V_1)) ∧ (x_2 = s0 → (∀ z_4 : Int32, z_4 = (x2 + 0) → I26 x1 z_4 (x3 + 1) V_1)))))
set_option maxRecDepth 10000 in
theorem okX7_pour_76 {d : Nat} {P : Option AV → Mem → Prop} {I26 : Int32 → Int32 → Int32 → Mem → Prop}   (x1 : Int32) (x2 : Int32) (x3 : Int32) (x4 : Int32) (s0 : Int32)  (V : Mem) (hk26 : ∀ (x1 : Int32) (x2 : Int32) (x3 : Int32), ∀ (V : Mem), I26 x1 x2 x3 V → Gq (Kp (d + 1) mX7_pour UM P) UM cX7_pour 6 RX7 26 [(0, aR 24 0), (1, aI x1), (2, aI x2), (3, aI x3)] [] V) (h : wpX7_pour_76 (Cl UM d) I26  x1 x2 x3 x4 s0 V P) : Gq (Kp (d + 1) mX7_pour UM P) UM cX7_pour 6 RX7 76 [(0, aR 24 0), (1, aI x1), (2, aI x2), (3, aI x3), (4, aI x4)] [aI s0] V := by
  unfold wpX7_pour_76 at h
  refine go_istore (al1 := [(5, aI s0), (0, aR 24 0), (1, aI x1), (2, aI x2), (3, aI x3), (4, aI x4)]) dX7_pour_76 (by decide) rfl ?_
  refine go_iload_n (q := 3) dX7_pour_78 rfl rfl ?_
  refine go_aload_n (q := 1) dX7_pour_79 rfl rfl ?_
  refine go_bipush (v := 35) dX7_pour_80 (by decide) ?_
  refine go_iload_n (q := 4) dX7_pour_82 rfl rfl ?_
  refine go_iadd dX7_pour_83 ?_
  refine go_iload (q := 0) dX7_pour_84 rfl ?_
  refine go_cVI (As := [aI (35 + x3), aI s0]) (st := [aI x2]) (r := 24) (i := 0) mv_X7_becomes dX7_pour_86 ml_X7_132 (hr_Kp (Nat.le_refl d)) rfl rfl (mM (by decide) (by decide) rfl) rfl rfl (Nat.le_of_ble_eq_true rfl) h (fun x_2 V_1 h => ?_)
  refine go_iload (q := 0) dX7_pour_89 rfl ?_
  refine go_icmp_ne (tgt := 98) dX7_pour_91 (by decide) (fun c_5 => ?_) (fun c_5 => ?_)
  · have h := h.1 c_5
    refine go_iconst (v := 1) dX7_pour_98 (by decide) ?_
    refine go_iadd dX7_pour_99 ?_
    refine nmI (fun z_3 e_z_3 => ?_)
    have h := h z_3 e_z_3
    refine go_istore_n (al1 := [(2, aI z_3), (5, aI s0), (0, aR 24 0), (1, aI x1), (3, aI x3), (4, aI x4)]) dX7_pour_100 rfl (by decide) rfl ?_
    refine go_iinc (q := 4) (y := 1) (al1 := [(3, aI (x3 + 1)), (2, aI z_3), (5, aI s0), (0, aR 24 0), (1, aI x1), (4, aI x4)]) dX7_pour_101 rfl (by decide) (by decide) rfl ?_
    refine go_goto (tgt := 26) dX7_pour_104 (by decide) ?_
    refine go_sub (al1 := [(0, aR 24 0), (1, aI x1), (2, aI z_3), (3, aI (x3 + 1))]) [3, 4, 1, 0] rfl ?_
    exact hk26 x1 z_3 (x3 + 1)  V_1 h
  · have h := h.2 c_5
    refine go_iconst (v := 0) dX7_pour_94 (by decide) ?_
    refine go_goto (tgt := 99) dX7_pour_95 (by decide) ?_
    refine go_iadd dX7_pour_99 ?_
    refine nmI (fun z_4 e_z_4 => ?_)
    have h := h z_4 e_z_4
    refine go_istore_n (al1 := [(2, aI z_4), (5, aI s0), (0, aR 24 0), (1, aI x1), (3, aI x3), (4, aI x4)]) dX7_pour_100 rfl (by decide) rfl ?_
    refine go_iinc (q := 4) (y := 1) (al1 := [(3, aI (x3 + 1)), (2, aI z_4), (5, aI s0), (0, aR 24 0), (1, aI x1), (4, aI x4)]) dX7_pour_101 rfl (by decide) (by decide) rfl ?_
    refine go_goto (tgt := 26) dX7_pour_104 (by decide) ?_
    refine go_sub (al1 := [(0, aR 24 0), (1, aI x1), (2, aI z_4), (3, aI (x3 + 1))]) [3, 4, 1, 0] rfl ?_
    exact hk26 x1 z_4 (x3 + 1)  V_1 h
def wpX7_pour_26 (C : CT) (I26 : Int32 → Int32 → Int32 → Mem → Prop)  (x1 : Int32) (x2 : Int32) (x3 : Int32) (V : Mem) (Q : Option AV → Mem → Prop) : Prop :=
  (∃ j_1 : Nat, x1 = nI j_1 ∧ j_1 < 4 ∧ (((V 38 0 j_1) ≤ x3 → Q (some (aI x2)) V) ∧ (¬ (V 38 0 j_1) ≤ x3 → (∃ j_2 : Nat, ((24 * x1) + x3) = nI j_2 ∧ j_2 < 96 ∧ (∀ z_3 : Int32, z_3 = (V 39 0 j_2) → ((¬ z_3 = (-1000000005) → (cI C mX7_within [aI z_3, aI 0, aI 9] V (fun x_5 V_4 => wpX7_pour_76 C I26  x1 x2 x3 z_3 x_5 V_4 Q))) ∧ (z_3 = (-1000000005) → (∃ j_6 : Nat, (35 + x3) = nI j_6 ∧ j_6 < 1479 ∧ wpX7_pour_76 C I26  x1 x2 x3 z_3 (V 25 0 j_6) V Q))))))))
set_option maxRecDepth 10000 in
theorem okX7_pour_26 {d : Nat} {P : Option AV → Mem → Prop} {I26 : Int32 → Int32 → Int32 → Mem → Prop}   (x1 : Int32) (x2 : Int32) (x3 : Int32)  (V : Mem) (hk26 : ∀ (x1 : Int32) (x2 : Int32) (x3 : Int32), ∀ (V : Mem), I26 x1 x2 x3 V → Gq (Kp (d + 1) mX7_pour UM P) UM cX7_pour 6 RX7 26 [(0, aR 24 0), (1, aI x1), (2, aI x2), (3, aI x3)] [] V) (h : wpX7_pour_26 (Cl UM d) I26  x1 x2 x3 V P) : Gq (Kp (d + 1) mX7_pour UM P) UM cX7_pour 6 RX7 26 [(0, aR 24 0), (1, aI x1), (2, aI x2), (3, aI x3)] [] V := by
  unfold wpX7_pour_26 at h
  refine go_iload_n (q := 3) dX7_pour_26 rfl rfl ?_
  refine go_aload_n (q := 0) dX7_pour_27 rfl rfl ?_
  refine go_getr fg_X7_51 dX7_pour_28 (mM (by decide) (by decide) rfl) ?_
  refine go_iload_n (q := 1) dX7_pour_31 rfl rfl ?_
  obtain ⟨j_1, e_j_1, l_j_1, h⟩ := h
  refine go_iald (r := 38) (n := 4) (j := j_1) rfl (by decide) dX7_pour_32 (mM (by decide) (by decide) rfl) e_j_1 l_j_1 ?_
  refine go_icmp_ge (tgt := 107) dX7_pour_33 (by decide) (fun c_8 => ?_) (fun c_8 => ?_)
  · have h := h.1 c_8
    refine go_iload_n (q := 2) dX7_pour_107 rfl rfl ?_
    exact go_iret rfl dX7_pour_108 h
  · have h := h.2 c_8
    refine go_aload_n (q := 0) dX7_pour_36 rfl rfl ?_
    refine go_getr fg_X7_54 dX7_pour_37 (mM (by decide) (by decide) rfl) ?_
    refine go_bipush (v := 24) dX7_pour_40 (by decide) ?_
    refine go_iload_n (q := 1) dX7_pour_42 rfl rfl ?_
    refine go_imul dX7_pour_43 ?_
    refine go_iload_n (q := 3) dX7_pour_44 rfl rfl ?_
    refine go_iadd dX7_pour_45 ?_
    obtain ⟨j_2, e_j_2, l_j_2, h⟩ := h
    refine go_iald (r := 39) (n := 96) (j := j_2) rfl (by decide) dX7_pour_46 (mM (by decide) (by decide) rfl) e_j_2 l_j_2 ?_
    refine nmI (fun z_3 e_z_3 => ?_)
    have h := h z_3 e_z_3
    refine go_istore (al1 := [(4, aI z_3), (0, aR 24 0), (1, aI x1), (2, aI x2), (3, aI x3)]) dX7_pour_47 (by decide) rfl ?_
    refine go_iload (q := 0) dX7_pour_49 rfl ?_
    refine go_ldc dX7_pour_51 ct_X7_75 ?_
    refine go_icmp_ne (tgt := 68) dX7_pour_53 (by decide) (fun c_7 => ?_) (fun c_7 => ?_)
    · have h := h.1 c_7
      refine go_iload (q := 0) dX7_pour_68 rfl ?_
      refine go_iconst (v := 0) dX7_pour_70 (by decide) ?_
      refine go_bipush (v := 9) dX7_pour_71 (by decide) ?_
      refine go_cSI (As := [aI z_3, aI 0, aI 9]) (st := []) ms_X7_within dX7_pour_73 ml_X7_104 (hr_Kp (Nat.le_refl d)) rfl rfl (Nat.le_of_ble_eq_true rfl) h (fun x_5 V_4 h => ?_)
      refine go_sub (al1 := [(0, aR 24 0), (1, aI x1), (2, aI x2), (3, aI x3), (4, aI z_3)]) [1, 2, 3, 4, 0] rfl ?_
      exact okX7_pour_76   x1 x2 x3 z_3 x_5  V_4 hk26 h
    · have h := h.2 c_7
      refine go_aload_n (q := 1) dX7_pour_56 rfl rfl ?_
      refine go_getr fg_X7_9 dX7_pour_57 (mM (by decide) (by decide) rfl) ?_
      refine go_bipush (v := 35) dX7_pour_60 (by decide) ?_
      refine go_iload_n (q := 4) dX7_pour_62 rfl rfl ?_
      refine go_iadd dX7_pour_63 ?_
      obtain ⟨j_6, e_j_6, l_j_6, h⟩ := h
      refine go_iald (r := 25) (n := 1479) (j := j_6) rfl (by decide) dX7_pour_64 (mM (by decide) (by decide) rfl) e_j_6 l_j_6 ?_
      refine go_goto (tgt := 76) dX7_pour_65 (by decide) ?_
      refine go_sub (al1 := [(0, aR 24 0), (1, aI x1), (2, aI x2), (3, aI x3), (4, aI z_3)]) [1, 2, 3, 4, 0] rfl ?_
      exact okX7_pour_76   x1 x2 x3 z_3 (V 25 0 j_6)  V hk26 h
def wpX7_pour_0 (C : CT) (I26 : Int32 → Int32 → Int32 → Mem → Prop)  (x1 : Int32) (V : Mem) (Q : Option AV → Mem → Prop) : Prop :=
  (cI C mX7_isSheet [aI x1] V (fun x_2 V_1 => ((¬ x_2 = 0 → (∃ j_3 : Nat, x1 = nI j_3 ∧ j_3 < 4 ∧ ((0 ≤ (V_1 37 0 j_3) → I26 x1 0 0 V_1) ∧ (¬ 0 ≤ (V_1 37 0 j_3) → Q (some (aI (-1000000011))) V_1)))) ∧ (x_2 = 0 → Q (some (aI (-1000000001))) V_1))))
set_option maxRecDepth 10000 in
theorem okX7_pour_0 {d : Nat} {P : Option AV → Mem → Prop} {I26 : Int32 → Int32 → Int32 → Mem → Prop}   (x1 : Int32)  (V : Mem) (hk26 : ∀ (x1 : Int32) (x2 : Int32) (x3 : Int32), ∀ (V : Mem), I26 x1 x2 x3 V → Gq (Kp (d + 1) mX7_pour UM P) UM cX7_pour 6 RX7 26 [(0, aR 24 0), (1, aI x1), (2, aI x2), (3, aI x3)] [] V) (h : wpX7_pour_0 (Cl UM d) I26  x1 V P) : Gq (Kp (d + 1) mX7_pour UM P) UM cX7_pour 6 RX7 0 [(0, aR 24 0), (1, aI x1)] [] V := by
  unfold wpX7_pour_0 at h
  refine go_iload_n (q := 1) dX7_pour_0 rfl rfl ?_
  refine go_cSI (As := [aI x1]) (st := []) ms_X7_isSheet dX7_pour_1 ml_X7_177 (hr_Kp (Nat.le_refl d)) rfl rfl (Nat.le_of_ble_eq_true rfl) h (fun x_2 V_1 h => ?_)
  refine go_if_ne (tgt := 10) dX7_pour_4 (by decide) (fun c_5 => ?_) (fun c_5 => ?_)
  · have h := h.1 c_5
    refine go_aload_n (q := 0) dX7_pour_10 rfl rfl ?_
    refine go_getr fg_X7_48 dX7_pour_11 (mM (by decide) (by decide) rfl) ?_
    refine go_iload_n (q := 1) dX7_pour_14 rfl rfl ?_
    obtain ⟨j_3, e_j_3, l_j_3, h⟩ := h
    refine go_iald (r := 37) (n := 4) (j := j_3) rfl (by decide) dX7_pour_15 (mM (by decide) (by decide) rfl) e_j_3 l_j_3 ?_
    refine go_if_ge (tgt := 22) dX7_pour_16 (by decide) (fun c_4 => ?_) (fun c_4 => ?_)
    · have h := h.1 c_4
      refine go_iconst (v := 0) dX7_pour_22 (by decide) ?_
      refine go_istore_n (al1 := [(2, aI 0), (0, aR 24 0), (1, aI x1)]) dX7_pour_23 rfl (by decide) rfl ?_
      refine go_iconst (v := 0) dX7_pour_24 (by decide) ?_
      refine go_istore_n (al1 := [(3, aI 0), (2, aI 0), (0, aR 24 0), (1, aI x1)]) dX7_pour_25 rfl (by decide) rfl ?_
      refine go_sub (al1 := [(0, aR 24 0), (1, aI x1), (2, aI 0), (3, aI 0)]) [2, 3, 1, 0] rfl ?_
      exact hk26 x1 0 0  V_1 h
    · have h := h.2 c_4
      refine go_ldc dX7_pour_19 ct_X7_180 ?_
      exact go_iret rfl dX7_pour_21 h
  · have h := h.2 c_5
    refine go_ldc dX7_pour_7 ct_X7_84 ?_
    exact go_iret rfl dX7_pour_9 h
theorem clX7_pour {d : Nat} {P : Option AV → Mem → Prop} {I26 : Int32 → Int32 → Int32 → Mem → Prop}   (x1 : Int32) (V : Mem) (hk26 : ∀ (x1 : Int32) (x2 : Int32) (x3 : Int32), ∀ (V : Mem), I26 x1 x2 x3 V → Gq (Kp (d + 1) mX7_pour UM P) UM cX7_pour 6 RX7 26 [(0, aR 24 0), (1, aI x1), (2, aI x2), (3, aI x3)] [] V) (h : wpX7_pour_0 (Cl UM d) I26  x1 V P) : Cl UM (d + 1) mX7_pour [aR 24 0, aI x1] V P :=
  cl_of [(0, aR 24 0), (1, aI x1)] (by decide) (fun _ => Nat.le_of_ble_eq_true rfl) (fun _ => rfl) (okX7_pour_0   x1 V hk26 h)
theorem dX7_reads_0 : decode cX7_reads 0 = .ok (.iload_n 1, 1) := by decide +kernel
theorem dX7_reads_1 : decode cX7_reads 1 = .ok (.invokestatic 177, 3) := by decide +kernel
theorem dX7_reads_4 : decode cX7_reads 4 = .ok (.ifCond .ne 6, 3) := by decide +kernel
theorem dX7_reads_7 : decode cX7_reads 7 = .ok (.ldc 84, 2) := by decide +kernel
theorem dX7_reads_9 : decode cX7_reads 9 = .ok (.ireturn, 1) := by decide +kernel
theorem dX7_reads_10 : decode cX7_reads 10 = .ok (.aload_n 0, 1) := by decide +kernel
theorem dX7_reads_11 : decode cX7_reads 11 = .ok (.getfield 48, 3) := by decide +kernel
theorem dX7_reads_14 : decode cX7_reads 14 = .ok (.iload_n 1, 1) := by decide +kernel
theorem dX7_reads_15 : decode cX7_reads 15 = .ok (.iaload, 1) := by decide +kernel
theorem dX7_reads_16 : decode cX7_reads 16 = .ok (.ifCond .ge 6, 3) := by decide +kernel
theorem dX7_reads_19 : decode cX7_reads 19 = .ok (.ldc 180, 2) := by decide +kernel
theorem dX7_reads_21 : decode cX7_reads 21 = .ok (.ireturn, 1) := by decide +kernel
theorem dX7_reads_22 : decode cX7_reads 22 = .ok (.iconst 0, 1) := by decide +kernel
theorem dX7_reads_23 : decode cX7_reads 23 = .ok (.istore_n 2, 1) := by decide +kernel
theorem dX7_reads_24 : decode cX7_reads 24 = .ok (.iload_n 2, 1) := by decide +kernel
theorem dX7_reads_25 : decode cX7_reads 25 = .ok (.aload_n 0, 1) := by decide +kernel
theorem dX7_reads_26 : decode cX7_reads 26 = .ok (.getfield 51, 3) := by decide +kernel
theorem dX7_reads_29 : decode cX7_reads 29 = .ok (.iload_n 1, 1) := by decide +kernel
theorem dX7_reads_30 : decode cX7_reads 30 = .ok (.iaload, 1) := by decide +kernel
theorem dX7_reads_31 : decode cX7_reads 31 = .ok (.if_icmp .ge 47, 3) := by decide +kernel
theorem dX7_reads_34 : decode cX7_reads 34 = .ok (.aload_n 0, 1) := by decide +kernel
theorem dX7_reads_35 : decode cX7_reads 35 = .ok (.getfield 54, 3) := by decide +kernel
theorem dX7_reads_38 : decode cX7_reads 38 = .ok (.bipush 24, 2) := by decide +kernel
theorem dX7_reads_40 : decode cX7_reads 40 = .ok (.iload_n 1, 1) := by decide +kernel
theorem dX7_reads_41 : decode cX7_reads 41 = .ok (.imul, 1) := by decide +kernel
theorem dX7_reads_42 : decode cX7_reads 42 = .ok (.iload_n 2, 1) := by decide +kernel
theorem dX7_reads_43 : decode cX7_reads 43 = .ok (.iadd, 1) := by decide +kernel
theorem dX7_reads_44 : decode cX7_reads 44 = .ok (.iaload, 1) := by decide +kernel
theorem dX7_reads_45 : decode cX7_reads 45 = .ok (.istore_n 3, 1) := by decide +kernel
theorem dX7_reads_46 : decode cX7_reads 46 = .ok (.iload_n 3, 1) := by decide +kernel
theorem dX7_reads_47 : decode cX7_reads 47 = .ok (.ldc 75, 2) := by decide +kernel
theorem dX7_reads_49 : decode cX7_reads 49 = .ok (.if_icmp .eq 23, 3) := by decide +kernel
theorem dX7_reads_52 : decode cX7_reads 52 = .ok (.aload_n 0, 1) := by decide +kernel
theorem dX7_reads_53 : decode cX7_reads 53 = .ok (.iload_n 2, 1) := by decide +kernel
theorem dX7_reads_54 : decode cX7_reads 54 = .ok (.invokevirtual 111, 3) := by decide +kernel
theorem dX7_reads_57 : decode cX7_reads 57 = .ok (.ifCond .eq 13, 3) := by decide +kernel
theorem dX7_reads_60 : decode cX7_reads 60 = .ok (.iload_n 3, 1) := by decide +kernel
theorem dX7_reads_61 : decode cX7_reads 61 = .ok (.aload_n 0, 1) := by decide +kernel
theorem dX7_reads_62 : decode cX7_reads 62 = .ok (.iload_n 2, 1) := by decide +kernel
theorem dX7_reads_63 : decode cX7_reads 63 = .ok (.iconst 4, 1) := by decide +kernel
theorem dX7_reads_64 : decode cX7_reads 64 = .ok (.invokevirtual 94, 3) := by decide +kernel
theorem dX7_reads_67 : decode cX7_reads 67 = .ok (.if_icmp .eq 5, 3) := by decide +kernel
theorem dX7_reads_70 : decode cX7_reads 70 = .ok (.iload_n 2, 1) := by decide +kernel
theorem dX7_reads_71 : decode cX7_reads 71 = .ok (.ireturn, 1) := by decide +kernel
theorem dX7_reads_72 : decode cX7_reads 72 = .ok (.iinc 2 1, 3) := by decide +kernel
theorem dX7_reads_75 : decode cX7_reads 75 = .ok (.goto (-51), 3) := by decide +kernel
theorem dX7_reads_78 : decode cX7_reads 78 = .ok (.ldc 75, 2) := by decide +kernel
theorem dX7_reads_80 : decode cX7_reads 80 = .ok (.ireturn, 1) := by decide +kernel
def wpX7_reads_24 (C : CT) (I24 : Int32 → Int32 → Mem → Prop)  (x1 : Int32) (x2 : Int32) (V : Mem) (Q : Option AV → Mem → Prop) : Prop :=
  (∃ j_1 : Nat, x1 = nI j_1 ∧ j_1 < 4 ∧ (((V 38 0 j_1) ≤ x2 → Q (some (aI (-1000000005))) V) ∧ (¬ (V 38 0 j_1) ≤ x2 → (∃ j_2 : Nat, ((24 * x1) + x2) = nI j_2 ∧ j_2 < 96 ∧ (∀ z_3 : Int32, z_3 = (V 39 0 j_2) → ((z_3 = (-1000000005) → I24 x1 (x2 + 1) V) ∧ (¬ z_3 = (-1000000005) → (cI C mX7_isRoof [aR 24 0, aI x2] V (fun x_5 V_4 => ((x_5 = 0 → Q (some (aI x2)) V_4) ∧ (¬ x_5 = 0 → (cI C mX7_of [aR 24 0, aI x2, aI 4] V_4 (fun x_7 V_6 => ((z_3 = x_7 → I24 x1 (x2 + 1) V_6) ∧ (¬ z_3 = x_7 → Q (some (aI x2)) V_6)))))))))))))))
set_option maxRecDepth 10000 in
theorem okX7_reads_24 {d : Nat} {P : Option AV → Mem → Prop} {I24 : Int32 → Int32 → Mem → Prop}   (x1 : Int32) (x2 : Int32)  (V : Mem) (hk24 : ∀ (x1 : Int32) (x2 : Int32), ∀ (V : Mem), I24 x1 x2 V → Gq (Kp (d + 1) mX7_reads UM P) UM cX7_reads 4 RX7 24 [(0, aR 24 0), (1, aI x1), (2, aI x2)] [] V) (h : wpX7_reads_24 (Cl UM d) I24  x1 x2 V P) : Gq (Kp (d + 1) mX7_reads UM P) UM cX7_reads 4 RX7 24 [(0, aR 24 0), (1, aI x1), (2, aI x2)] [] V := by
  unfold wpX7_reads_24 at h
  refine go_iload_n (q := 2) dX7_reads_24 rfl rfl ?_
  refine go_aload_n (q := 0) dX7_reads_25 rfl rfl ?_
  refine go_getr fg_X7_51 dX7_reads_26 (mM (by decide) (by decide) rfl) ?_
  refine go_iload_n (q := 1) dX7_reads_29 rfl rfl ?_
  obtain ⟨j_1, e_j_1, l_j_1, h⟩ := h
  refine go_iald (r := 38) (n := 4) (j := j_1) rfl (by decide) dX7_reads_30 (mM (by decide) (by decide) rfl) e_j_1 l_j_1 ?_
  refine go_icmp_ge (tgt := 78) dX7_reads_31 (by decide) (fun c_11 => ?_) (fun c_11 => ?_)
  · have h := h.1 c_11
    refine go_ldc dX7_reads_78 ct_X7_75 ?_
    exact go_iret rfl dX7_reads_80 h
  · have h := h.2 c_11
    refine go_aload_n (q := 0) dX7_reads_34 rfl rfl ?_
    refine go_getr fg_X7_54 dX7_reads_35 (mM (by decide) (by decide) rfl) ?_
    refine go_bipush (v := 24) dX7_reads_38 (by decide) ?_
    refine go_iload_n (q := 1) dX7_reads_40 rfl rfl ?_
    refine go_imul dX7_reads_41 ?_
    refine go_iload_n (q := 2) dX7_reads_42 rfl rfl ?_
    refine go_iadd dX7_reads_43 ?_
    obtain ⟨j_2, e_j_2, l_j_2, h⟩ := h
    refine go_iald (r := 39) (n := 96) (j := j_2) rfl (by decide) dX7_reads_44 (mM (by decide) (by decide) rfl) e_j_2 l_j_2 ?_
    refine nmI (fun z_3 e_z_3 => ?_)
    have h := h z_3 e_z_3
    refine go_istore_n (al1 := [(3, aI z_3), (0, aR 24 0), (1, aI x1), (2, aI x2)]) dX7_reads_45 rfl (by decide) rfl ?_
    refine go_iload_n (q := 0) dX7_reads_46 rfl rfl ?_
    refine go_ldc dX7_reads_47 ct_X7_75 ?_
    refine go_icmp_eq (tgt := 72) dX7_reads_49 (by decide) (fun c_10 => ?_) (fun c_10 => ?_)
    · have h := h.1 c_10
      refine go_iinc (q := 3) (y := 1) (al1 := [(2, aI (x2 + 1)), (3, aI z_3), (0, aR 24 0), (1, aI x1)]) dX7_reads_72 rfl (by decide) (by decide) rfl ?_
      refine go_goto (tgt := 24) dX7_reads_75 (by decide) ?_
      refine go_sub (al1 := [(0, aR 24 0), (1, aI x1), (2, aI (x2 + 1))]) [2, 3, 0] rfl ?_
      exact hk24 x1 (x2 + 1)  V h
    · have h := h.2 c_10
      refine go_aload_n (q := 1) dX7_reads_52 rfl rfl ?_
      refine go_iload_n (q := 3) dX7_reads_53 rfl rfl ?_
      refine go_cVI (As := [aI x2]) (st := []) (r := 24) (i := 0) mv_X7_isRoof dX7_reads_54 ml_X7_111 (hr_Kp (Nat.le_refl d)) rfl rfl (mM (by decide) (by decide) rfl) rfl rfl (Nat.le_of_ble_eq_true rfl) h (fun x_5 V_4 h => ?_)
      refine go_if_eq (tgt := 70) dX7_reads_57 (by decide) (fun c_9 => ?_) (fun c_9 => ?_)
      · have h := h.1 c_9
        refine go_iload_n (q := 3) dX7_reads_70 rfl rfl ?_
        exact go_iret rfl dX7_reads_71 h
      · have h := h.2 c_9
        refine go_iload_n (q := 0) dX7_reads_60 rfl rfl ?_
        refine go_aload_n (q := 1) dX7_reads_61 rfl rfl ?_
        refine go_iload_n (q := 3) dX7_reads_62 rfl rfl ?_
        refine go_iconst (v := 4) dX7_reads_63 (by decide) ?_
        refine go_cVI (As := [aI x2, aI 4]) (st := [aI z_3]) (r := 24) (i := 0) mv_X7_of dX7_reads_64 ml_X7_94 (hr_Kp (Nat.le_refl d)) rfl rfl (mM (by decide) (by decide) rfl) rfl rfl (Nat.le_of_ble_eq_true rfl) h (fun x_7 V_6 h => ?_)
        refine go_icmp_eq (tgt := 72) dX7_reads_67 (by decide) (fun c_8 => ?_) (fun c_8 => ?_)
        · have h := h.1 c_8
          refine go_iinc (q := 3) (y := 1) (al1 := [(2, aI (x2 + 1)), (3, aI z_3), (0, aR 24 0), (1, aI x1)]) dX7_reads_72 rfl (by decide) (by decide) rfl ?_
          refine go_goto (tgt := 24) dX7_reads_75 (by decide) ?_
          refine go_sub (al1 := [(0, aR 24 0), (1, aI x1), (2, aI (x2 + 1))]) [2, 3, 0] rfl ?_
          exact hk24 x1 (x2 + 1)  V_6 h
        · have h := h.2 c_8
          refine go_iload_n (q := 3) dX7_reads_70 rfl rfl ?_
          exact go_iret rfl dX7_reads_71 h
def wpX7_reads_0 (C : CT) (I24 : Int32 → Int32 → Mem → Prop)  (x1 : Int32) (V : Mem) (Q : Option AV → Mem → Prop) : Prop :=
  (cI C mX7_isSheet [aI x1] V (fun x_2 V_1 => ((¬ x_2 = 0 → (∃ j_3 : Nat, x1 = nI j_3 ∧ j_3 < 4 ∧ ((0 ≤ (V_1 37 0 j_3) → I24 x1 0 V_1) ∧ (¬ 0 ≤ (V_1 37 0 j_3) → Q (some (aI (-1000000011))) V_1)))) ∧ (x_2 = 0 → Q (some (aI (-1000000001))) V_1))))
set_option maxRecDepth 10000 in
theorem okX7_reads_0 {d : Nat} {P : Option AV → Mem → Prop} {I24 : Int32 → Int32 → Mem → Prop}   (x1 : Int32)  (V : Mem) (hk24 : ∀ (x1 : Int32) (x2 : Int32), ∀ (V : Mem), I24 x1 x2 V → Gq (Kp (d + 1) mX7_reads UM P) UM cX7_reads 4 RX7 24 [(0, aR 24 0), (1, aI x1), (2, aI x2)] [] V) (h : wpX7_reads_0 (Cl UM d) I24  x1 V P) : Gq (Kp (d + 1) mX7_reads UM P) UM cX7_reads 4 RX7 0 [(0, aR 24 0), (1, aI x1)] [] V := by
  unfold wpX7_reads_0 at h
  refine go_iload_n (q := 1) dX7_reads_0 rfl rfl ?_
  refine go_cSI (As := [aI x1]) (st := []) ms_X7_isSheet dX7_reads_1 ml_X7_177 (hr_Kp (Nat.le_refl d)) rfl rfl (Nat.le_of_ble_eq_true rfl) h (fun x_2 V_1 h => ?_)
  refine go_if_ne (tgt := 10) dX7_reads_4 (by decide) (fun c_5 => ?_) (fun c_5 => ?_)
  · have h := h.1 c_5
    refine go_aload_n (q := 0) dX7_reads_10 rfl rfl ?_
    refine go_getr fg_X7_48 dX7_reads_11 (mM (by decide) (by decide) rfl) ?_
    refine go_iload_n (q := 1) dX7_reads_14 rfl rfl ?_
    obtain ⟨j_3, e_j_3, l_j_3, h⟩ := h
    refine go_iald (r := 37) (n := 4) (j := j_3) rfl (by decide) dX7_reads_15 (mM (by decide) (by decide) rfl) e_j_3 l_j_3 ?_
    refine go_if_ge (tgt := 22) dX7_reads_16 (by decide) (fun c_4 => ?_) (fun c_4 => ?_)
    · have h := h.1 c_4
      refine go_iconst (v := 0) dX7_reads_22 (by decide) ?_
      refine go_istore_n (al1 := [(2, aI 0), (0, aR 24 0), (1, aI x1)]) dX7_reads_23 rfl (by decide) rfl ?_
      refine go_sub (al1 := [(0, aR 24 0), (1, aI x1), (2, aI 0)]) [1, 2, 0] rfl ?_
      exact hk24 x1 0  V_1 h
    · have h := h.2 c_4
      refine go_ldc dX7_reads_19 ct_X7_180 ?_
      exact go_iret rfl dX7_reads_21 h
  · have h := h.2 c_5
    refine go_ldc dX7_reads_7 ct_X7_84 ?_
    exact go_iret rfl dX7_reads_9 h
theorem clX7_reads {d : Nat} {P : Option AV → Mem → Prop} {I24 : Int32 → Int32 → Mem → Prop}   (x1 : Int32) (V : Mem) (hk24 : ∀ (x1 : Int32) (x2 : Int32), ∀ (V : Mem), I24 x1 x2 V → Gq (Kp (d + 1) mX7_reads UM P) UM cX7_reads 4 RX7 24 [(0, aR 24 0), (1, aI x1), (2, aI x2)] [] V) (h : wpX7_reads_0 (Cl UM d) I24  x1 V P) : Cl UM (d + 1) mX7_reads [aR 24 0, aI x1] V P :=
  cl_of [(0, aR 24 0), (1, aI x1)] (by decide) (fun _ => Nat.le_of_ble_eq_true rfl) (fun _ => rfl) (okX7_reads_0   x1 V hk24 h)
theorem dX7_copy_0 : decode cX7_copy 0 = .ok (.iload_n 1, 1) := by decide +kernel
theorem dX7_copy_1 : decode cX7_copy 1 = .ok (.invokestatic 177, 3) := by decide +kernel
theorem dX7_copy_4 : decode cX7_copy 4 = .ok (.ifCond .eq 10, 3) := by decide +kernel
theorem dX7_copy_7 : decode cX7_copy 7 = .ok (.iload_n 3, 1) := by decide +kernel
theorem dX7_copy_8 : decode cX7_copy 8 = .ok (.invokestatic 177, 3) := by decide +kernel
theorem dX7_copy_11 : decode cX7_copy 11 = .ok (.ifCond .ne 6, 3) := by decide +kernel
theorem dX7_copy_14 : decode cX7_copy 14 = .ok (.ldc 84, 2) := by decide +kernel
theorem dX7_copy_16 : decode cX7_copy 16 = .ok (.ireturn, 1) := by decide +kernel
theorem dX7_copy_17 : decode cX7_copy 17 = .ok (.aload_n 0, 1) := by decide +kernel
theorem dX7_copy_18 : decode cX7_copy 18 = .ok (.getfield 48, 3) := by decide +kernel
theorem dX7_copy_21 : decode cX7_copy 21 = .ok (.iload_n 1, 1) := by decide +kernel
theorem dX7_copy_22 : decode cX7_copy 22 = .ok (.iaload, 1) := by decide +kernel
theorem dX7_copy_23 : decode cX7_copy 23 = .ok (.ifCond .lt 12, 3) := by decide +kernel
theorem dX7_copy_26 : decode cX7_copy 26 = .ok (.aload_n 0, 1) := by decide +kernel
theorem dX7_copy_27 : decode cX7_copy 27 = .ok (.getfield 48, 3) := by decide +kernel
theorem dX7_copy_30 : decode cX7_copy 30 = .ok (.iload_n 3, 1) := by decide +kernel
theorem dX7_copy_31 : decode cX7_copy 31 = .ok (.iaload, 1) := by decide +kernel
theorem dX7_copy_32 : decode cX7_copy 32 = .ok (.ifCond .ge 6, 3) := by decide +kernel
theorem dX7_copy_35 : decode cX7_copy 35 = .ok (.ldc 180, 2) := by decide +kernel
theorem dX7_copy_37 : decode cX7_copy 37 = .ok (.ireturn, 1) := by decide +kernel
theorem dX7_copy_38 : decode cX7_copy 38 = .ok (.aload_n 0, 1) := by decide +kernel
theorem dX7_copy_39 : decode cX7_copy 39 = .ok (.getfield 48, 3) := by decide +kernel
theorem dX7_copy_42 : decode cX7_copy 42 = .ok (.iload_n 1, 1) := by decide +kernel
theorem dX7_copy_43 : decode cX7_copy 43 = .ok (.iaload, 1) := by decide +kernel
theorem dX7_copy_44 : decode cX7_copy 44 = .ok (.aload_n 0, 1) := by decide +kernel
theorem dX7_copy_45 : decode cX7_copy 45 = .ok (.getfield 48, 3) := by decide +kernel
theorem dX7_copy_48 : decode cX7_copy 48 = .ok (.iload_n 3, 1) := by decide +kernel
theorem dX7_copy_49 : decode cX7_copy 49 = .ok (.iaload, 1) := by decide +kernel
theorem dX7_copy_50 : decode cX7_copy 50 = .ok (.if_icmp .eq 6, 3) := by decide +kernel
theorem dX7_copy_53 : decode cX7_copy 53 = .ok (.ldc 131, 2) := by decide +kernel
theorem dX7_copy_55 : decode cX7_copy 55 = .ok (.ireturn, 1) := by decide +kernel
theorem dX7_copy_56 : decode cX7_copy 56 = .ok (.iload_n 2, 1) := by decide +kernel
theorem dX7_copy_57 : decode cX7_copy 57 = .ok (.ifCond .lt 40, 3) := by decide +kernel
theorem dX7_copy_60 : decode cX7_copy 60 = .ok (.iload 4, 2) := by decide +kernel
theorem dX7_copy_62 : decode cX7_copy 62 = .ok (.ifCond .lt 35, 3) := by decide +kernel
theorem dX7_copy_65 : decode cX7_copy 65 = .ok (.iload 5, 2) := by decide +kernel
theorem dX7_copy_67 : decode cX7_copy 67 = .ok (.ifCond .lt 30, 3) := by decide +kernel
theorem dX7_copy_70 : decode cX7_copy 70 = .ok (.iload_n 2, 1) := by decide +kernel
theorem dX7_copy_71 : decode cX7_copy 71 = .ok (.aload_n 0, 1) := by decide +kernel
theorem dX7_copy_72 : decode cX7_copy 72 = .ok (.getfield 51, 3) := by decide +kernel
theorem dX7_copy_75 : decode cX7_copy 75 = .ok (.iload_n 1, 1) := by decide +kernel
theorem dX7_copy_76 : decode cX7_copy 76 = .ok (.iaload, 1) := by decide +kernel
theorem dX7_copy_77 : decode cX7_copy 77 = .ok (.iload 5, 2) := by decide +kernel
theorem dX7_copy_79 : decode cX7_copy 79 = .ok (.isub, 1) := by decide +kernel
theorem dX7_copy_80 : decode cX7_copy 80 = .ok (.if_icmp .gt 17, 3) := by decide +kernel
theorem dX7_copy_83 : decode cX7_copy 83 = .ok (.iload 4, 2) := by decide +kernel
theorem dX7_copy_85 : decode cX7_copy 85 = .ok (.aload_n 0, 1) := by decide +kernel
theorem dX7_copy_86 : decode cX7_copy 86 = .ok (.getfield 51, 3) := by decide +kernel
theorem dX7_copy_89 : decode cX7_copy 89 = .ok (.iload_n 3, 1) := by decide +kernel
theorem dX7_copy_90 : decode cX7_copy 90 = .ok (.iaload, 1) := by decide +kernel
theorem dX7_copy_91 : decode cX7_copy 91 = .ok (.iload 5, 2) := by decide +kernel
theorem dX7_copy_93 : decode cX7_copy 93 = .ok (.isub, 1) := by decide +kernel
theorem dX7_copy_94 : decode cX7_copy 94 = .ok (.if_icmp .le 6, 3) := by decide +kernel
theorem dX7_copy_97 : decode cX7_copy 97 = .ok (.ldc 255, 2) := by decide +kernel
theorem dX7_copy_99 : decode cX7_copy 99 = .ok (.ireturn, 1) := by decide +kernel
theorem dX7_copy_100 : decode cX7_copy 100 = .ok (.iconst 0, 1) := by decide +kernel
theorem dX7_copy_101 : decode cX7_copy 101 = .ok (.istore 6, 2) := by decide +kernel
theorem dX7_copy_103 : decode cX7_copy 103 = .ok (.iload 6, 2) := by decide +kernel
theorem dX7_copy_105 : decode cX7_copy 105 = .ok (.iload 5, 2) := by decide +kernel
theorem dX7_copy_107 : decode cX7_copy 107 = .ok (.if_icmp .ge 30, 3) := by decide +kernel
theorem dX7_copy_110 : decode cX7_copy 110 = .ok (.aload_n 0, 1) := by decide +kernel
theorem dX7_copy_111 : decode cX7_copy 111 = .ok (.getfield 69, 3) := by decide +kernel
theorem dX7_copy_114 : decode cX7_copy 114 = .ok (.iload 6, 2) := by decide +kernel
theorem dX7_copy_116 : decode cX7_copy 116 = .ok (.aload_n 0, 1) := by decide +kernel
theorem dX7_copy_117 : decode cX7_copy 117 = .ok (.getfield 54, 3) := by decide +kernel
theorem dX7_copy_120 : decode cX7_copy 120 = .ok (.bipush 24, 2) := by decide +kernel
theorem dX7_copy_122 : decode cX7_copy 122 = .ok (.iload_n 1, 1) := by decide +kernel
theorem dX7_copy_123 : decode cX7_copy 123 = .ok (.imul, 1) := by decide +kernel
theorem dX7_copy_124 : decode cX7_copy 124 = .ok (.iload_n 2, 1) := by decide +kernel
theorem dX7_copy_125 : decode cX7_copy 125 = .ok (.iadd, 1) := by decide +kernel
theorem dX7_copy_126 : decode cX7_copy 126 = .ok (.iload 6, 2) := by decide +kernel
theorem dX7_copy_128 : decode cX7_copy 128 = .ok (.iadd, 1) := by decide +kernel
theorem dX7_copy_129 : decode cX7_copy 129 = .ok (.iaload, 1) := by decide +kernel
theorem dX7_copy_130 : decode cX7_copy 130 = .ok (.iastore, 1) := by decide +kernel
theorem dX7_copy_131 : decode cX7_copy 131 = .ok (.iinc 6 1, 3) := by decide +kernel
theorem dX7_copy_134 : decode cX7_copy 134 = .ok (.goto (-31), 3) := by decide +kernel
theorem dX7_copy_137 : decode cX7_copy 137 = .ok (.iconst 0, 1) := by decide +kernel
theorem dX7_copy_138 : decode cX7_copy 138 = .ok (.istore 6, 2) := by decide +kernel
theorem dX7_copy_140 : decode cX7_copy 140 = .ok (.iload 6, 2) := by decide +kernel
theorem dX7_copy_142 : decode cX7_copy 142 = .ok (.iload 5, 2) := by decide +kernel
theorem dX7_copy_144 : decode cX7_copy 144 = .ok (.if_icmp .ge 31, 3) := by decide +kernel
theorem dX7_copy_147 : decode cX7_copy 147 = .ok (.aload_n 0, 1) := by decide +kernel
theorem dX7_copy_148 : decode cX7_copy 148 = .ok (.getfield 54, 3) := by decide +kernel
theorem dX7_copy_151 : decode cX7_copy 151 = .ok (.bipush 24, 2) := by decide +kernel
theorem dX7_copy_153 : decode cX7_copy 153 = .ok (.iload_n 3, 1) := by decide +kernel
theorem dX7_copy_154 : decode cX7_copy 154 = .ok (.imul, 1) := by decide +kernel
theorem dX7_copy_155 : decode cX7_copy 155 = .ok (.iload 4, 2) := by decide +kernel
theorem dX7_copy_157 : decode cX7_copy 157 = .ok (.iadd, 1) := by decide +kernel
theorem dX7_copy_158 : decode cX7_copy 158 = .ok (.iload 6, 2) := by decide +kernel
theorem dX7_copy_160 : decode cX7_copy 160 = .ok (.iadd, 1) := by decide +kernel
theorem dX7_copy_161 : decode cX7_copy 161 = .ok (.aload_n 0, 1) := by decide +kernel
theorem dX7_copy_162 : decode cX7_copy 162 = .ok (.getfield 69, 3) := by decide +kernel
theorem dX7_copy_165 : decode cX7_copy 165 = .ok (.iload 6, 2) := by decide +kernel
theorem dX7_copy_167 : decode cX7_copy 167 = .ok (.iaload, 1) := by decide +kernel
theorem dX7_copy_168 : decode cX7_copy 168 = .ok (.iastore, 1) := by decide +kernel
theorem dX7_copy_169 : decode cX7_copy 169 = .ok (.iinc 6 1, 3) := by decide +kernel
theorem dX7_copy_172 : decode cX7_copy 172 = .ok (.goto (-32), 3) := by decide +kernel
theorem dX7_copy_175 : decode cX7_copy 175 = .ok (.iload 5, 2) := by decide +kernel
theorem dX7_copy_177 : decode cX7_copy 177 = .ok (.ireturn, 1) := by decide +kernel
def wpX7_copy_140 (C : CT) (I103 : Int32 → Int32 → Int32 → Int32 → Int32 → Int32 → Mem → Prop) (I140 : Int32 → Int32 → Int32 → Int32 → Int32 → Int32 → Mem → Prop)  (x1 : Int32) (x2 : Int32) (x3 : Int32) (x4 : Int32) (x5 : Int32) (x6 : Int32) (V : Mem) (Q : Option AV → Mem → Prop) : Prop :=
  ((x5 ≤ x6 → Q (some (aI x5)) V) ∧ (¬ x5 ≤ x6 → (∃ j_1 : Nat, x6 = nI j_1 ∧ j_1 < 24 ∧ (∃ j_2 : Nat, (((24 * x3) + x4) + x6) = nI j_2 ∧ j_2 < 96 ∧ (∀ V_3 : Mem, V_3 = mu V 39 0 j_2 (V 44 0 j_1) → I140 x1 x2 x3 x4 x5 (x6 + 1) V_3)))))
set_option maxRecDepth 10000 in
theorem okX7_copy_140 {d : Nat} {P : Option AV → Mem → Prop} {I103 : Int32 → Int32 → Int32 → Int32 → Int32 → Int32 → Mem → Prop} {I140 : Int32 → Int32 → Int32 → Int32 → Int32 → Int32 → Mem → Prop}   (x1 : Int32) (x2 : Int32) (x3 : Int32) (x4 : Int32) (x5 : Int32) (x6 : Int32)  (V : Mem) (hk103 : ∀ (x1 : Int32) (x2 : Int32) (x3 : Int32) (x4 : Int32) (x5 : Int32) (x6 : Int32), ∀ (V : Mem), I103 x1 x2 x3 x4 x5 x6 V → Gq (Kp (d + 1) mX7_copy UM P) UM cX7_copy 7 RX7 103 [(0, aR 24 0), (1, aI x1), (2, aI x2), (3, aI x3), (4, aI x4), (5, aI x5), (6, aI x6)] [] V) (hk140 : ∀ (x1 : Int32) (x2 : Int32) (x3 : Int32) (x4 : Int32) (x5 : Int32) (x6 : Int32), ∀ (V : Mem), I140 x1 x2 x3 x4 x5 x6 V → Gq (Kp (d + 1) mX7_copy UM P) UM cX7_copy 7 RX7 140 [(0, aR 24 0), (1, aI x1), (2, aI x2), (3, aI x3), (4, aI x4), (5, aI x5), (6, aI x6)] [] V) (h : wpX7_copy_140 (Cl UM d) I103 I140  x1 x2 x3 x4 x5 x6 V P) : Gq (Kp (d + 1) mX7_copy UM P) UM cX7_copy 7 RX7 140 [(0, aR 24 0), (1, aI x1), (2, aI x2), (3, aI x3), (4, aI x4), (5, aI x5), (6, aI x6)] [] V := by
  unfold wpX7_copy_140 at h
  refine go_iload (q := 6) dX7_copy_140 rfl ?_
  refine go_iload (q := 5) dX7_copy_142 rfl ?_
  refine go_icmp_ge (tgt := 175) dX7_copy_144 (by decide) (fun c_4 => ?_) (fun c_4 => ?_)
  · have h := h.1 c_4
    refine go_iload (q := 5) dX7_copy_175 rfl ?_
    exact go_iret rfl dX7_copy_177 h
  · have h := h.2 c_4
    refine go_aload_n (q := 0) dX7_copy_147 rfl rfl ?_
    refine go_getr fg_X7_54 dX7_copy_148 (mM (by decide) (by decide) rfl) ?_
    refine go_bipush (v := 24) dX7_copy_151 (by decide) ?_
    refine go_iload_n (q := 3) dX7_copy_153 rfl rfl ?_
    refine go_imul dX7_copy_154 ?_
    refine go_iload (q := 4) dX7_copy_155 rfl ?_
    refine go_iadd dX7_copy_157 ?_
    refine go_iload (q := 6) dX7_copy_158 rfl ?_
    refine go_iadd dX7_copy_160 ?_
    refine go_aload_n (q := 0) dX7_copy_161 rfl rfl ?_
    refine go_getr fg_X7_69 dX7_copy_162 (mM (by decide) (by decide) rfl) ?_
    refine go_iload (q := 6) dX7_copy_165 rfl ?_
    obtain ⟨j_1, e_j_1, l_j_1, h⟩ := h
    refine go_iald (r := 44) (n := 24) (j := j_1) rfl (by decide) dX7_copy_167 (mM (by decide) (by decide) rfl) e_j_1 l_j_1 ?_
    obtain ⟨j_2, e_j_2, l_j_2, h⟩ := h
    refine go_iast (r := 39) (n := 96) (j := j_2) rfl (by decide) dX7_copy_168 (mM (by decide) (by decide) rfl) e_j_2 l_j_2 ?_
    refine nmV (fun V_3 e_V_3 => ?_)
    have h := h V_3 e_V_3
    refine go_iinc (q := 6) (y := 1) (al1 := [(6, aI (x6 + 1)), (0, aR 24 0), (1, aI x1), (2, aI x2), (3, aI x3), (4, aI x4), (5, aI x5)]) dX7_copy_169 rfl (by decide) (by decide) rfl ?_
    refine go_goto (tgt := 140) dX7_copy_172 (by decide) ?_
    refine go_sub (al1 := [(0, aR 24 0), (1, aI x1), (2, aI x2), (3, aI x3), (4, aI x4), (5, aI x5), (6, aI (x6 + 1))]) [1, 2, 3, 4, 5, 6, 0] rfl ?_
    exact hk140 x1 x2 x3 x4 x5 (x6 + 1)  V_3 h
def wpX7_copy_103 (C : CT) (I103 : Int32 → Int32 → Int32 → Int32 → Int32 → Int32 → Mem → Prop) (I140 : Int32 → Int32 → Int32 → Int32 → Int32 → Int32 → Mem → Prop)  (x1 : Int32) (x2 : Int32) (x3 : Int32) (x4 : Int32) (x5 : Int32) (x6 : Int32) (V : Mem) (Q : Option AV → Mem → Prop) : Prop :=
  ((x5 ≤ x6 → I140 x1 x2 x3 x4 x5 0 V) ∧ (¬ x5 ≤ x6 → (∃ j_1 : Nat, (((24 * x1) + x2) + x6) = nI j_1 ∧ j_1 < 96 ∧ (∃ j_2 : Nat, x6 = nI j_2 ∧ j_2 < 24 ∧ (∀ V_3 : Mem, V_3 = mu V 44 0 j_2 (V 39 0 j_1) → I103 x1 x2 x3 x4 x5 (x6 + 1) V_3)))))
set_option maxRecDepth 10000 in
theorem okX7_copy_103 {d : Nat} {P : Option AV → Mem → Prop} {I103 : Int32 → Int32 → Int32 → Int32 → Int32 → Int32 → Mem → Prop} {I140 : Int32 → Int32 → Int32 → Int32 → Int32 → Int32 → Mem → Prop}   (x1 : Int32) (x2 : Int32) (x3 : Int32) (x4 : Int32) (x5 : Int32) (x6 : Int32)  (V : Mem) (hk103 : ∀ (x1 : Int32) (x2 : Int32) (x3 : Int32) (x4 : Int32) (x5 : Int32) (x6 : Int32), ∀ (V : Mem), I103 x1 x2 x3 x4 x5 x6 V → Gq (Kp (d + 1) mX7_copy UM P) UM cX7_copy 7 RX7 103 [(0, aR 24 0), (1, aI x1), (2, aI x2), (3, aI x3), (4, aI x4), (5, aI x5), (6, aI x6)] [] V) (hk140 : ∀ (x1 : Int32) (x2 : Int32) (x3 : Int32) (x4 : Int32) (x5 : Int32) (x6 : Int32), ∀ (V : Mem), I140 x1 x2 x3 x4 x5 x6 V → Gq (Kp (d + 1) mX7_copy UM P) UM cX7_copy 7 RX7 140 [(0, aR 24 0), (1, aI x1), (2, aI x2), (3, aI x3), (4, aI x4), (5, aI x5), (6, aI x6)] [] V) (h : wpX7_copy_103 (Cl UM d) I103 I140  x1 x2 x3 x4 x5 x6 V P) : Gq (Kp (d + 1) mX7_copy UM P) UM cX7_copy 7 RX7 103 [(0, aR 24 0), (1, aI x1), (2, aI x2), (3, aI x3), (4, aI x4), (5, aI x5), (6, aI x6)] [] V := by
  unfold wpX7_copy_103 at h
  refine go_iload (q := 6) dX7_copy_103 rfl ?_
  refine go_iload (q := 5) dX7_copy_105 rfl ?_
  refine go_icmp_ge (tgt := 137) dX7_copy_107 (by decide) (fun c_4 => ?_) (fun c_4 => ?_)
  · have h := h.1 c_4
    refine go_iconst (v := 0) dX7_copy_137 (by decide) ?_
    refine go_istore (al1 := [(6, aI 0), (0, aR 24 0), (1, aI x1), (2, aI x2), (3, aI x3), (4, aI x4), (5, aI x5)]) dX7_copy_138 (by decide) rfl ?_
    refine go_sub (al1 := [(0, aR 24 0), (1, aI x1), (2, aI x2), (3, aI x3), (4, aI x4), (5, aI x5), (6, aI 0)]) [1, 2, 3, 4, 5, 6, 0] rfl ?_
    exact hk140 x1 x2 x3 x4 x5 0  V h
  · have h := h.2 c_4
    refine go_aload_n (q := 0) dX7_copy_110 rfl rfl ?_
    refine go_getr fg_X7_69 dX7_copy_111 (mM (by decide) (by decide) rfl) ?_
    refine go_iload (q := 6) dX7_copy_114 rfl ?_
    refine go_aload_n (q := 0) dX7_copy_116 rfl rfl ?_
    refine go_getr fg_X7_54 dX7_copy_117 (mM (by decide) (by decide) rfl) ?_
    refine go_bipush (v := 24) dX7_copy_120 (by decide) ?_
    refine go_iload_n (q := 1) dX7_copy_122 rfl rfl ?_
    refine go_imul dX7_copy_123 ?_
    refine go_iload_n (q := 2) dX7_copy_124 rfl rfl ?_
    refine go_iadd dX7_copy_125 ?_
    refine go_iload (q := 6) dX7_copy_126 rfl ?_
    refine go_iadd dX7_copy_128 ?_
    obtain ⟨j_1, e_j_1, l_j_1, h⟩ := h
    refine go_iald (r := 39) (n := 96) (j := j_1) rfl (by decide) dX7_copy_129 (mM (by decide) (by decide) rfl) e_j_1 l_j_1 ?_
    obtain ⟨j_2, e_j_2, l_j_2, h⟩ := h
    refine go_iast (r := 44) (n := 24) (j := j_2) rfl (by decide) dX7_copy_130 (mM (by decide) (by decide) rfl) e_j_2 l_j_2 ?_
    refine nmV (fun V_3 e_V_3 => ?_)
    have h := h V_3 e_V_3
    refine go_iinc (q := 6) (y := 1) (al1 := [(6, aI (x6 + 1)), (0, aR 24 0), (1, aI x1), (2, aI x2), (3, aI x3), (4, aI x4), (5, aI x5)]) dX7_copy_131 rfl (by decide) (by decide) rfl ?_
    refine go_goto (tgt := 103) dX7_copy_134 (by decide) ?_
    refine go_sub (al1 := [(0, aR 24 0), (1, aI x1), (2, aI x2), (3, aI x3), (4, aI x4), (5, aI x5), (6, aI (x6 + 1))]) [1, 2, 3, 4, 5, 6, 0] rfl ?_
    exact hk103 x1 x2 x3 x4 x5 (x6 + 1)  V_3 h
def wpX7_copy_0 (C : CT) (I103 : Int32 → Int32 → Int32 → Int32 → Int32 → Int32 → Mem → Prop) (I140 : Int32 → Int32 → Int32 → Int32 → Int32 → Int32 → Mem → Prop)  (x1 : Int32) (x2 : Int32) (x3 : Int32) (x4 : Int32) (x5 : Int32) (V : Mem) (Q : Option AV → Mem → Prop) : Prop :=
  (cI C mX7_isSheet [aI x1] V (fun x_2 V_1 => ((x_2 = 0 → Q (some (aI (-1000000001))) V_1) ∧ (¬ x_2 = 0 → (cI C mX7_isSheet [aI x3] V_1 (fun x_4 V_3 => ((¬ x_4 = 0 → (∃ j_5 : Nat, x1 = nI j_5 ∧ j_5 < 4 ∧ (((V_3 37 0 j_5) < 0 → Q (some (aI (-1000000011))) V_3) ∧ (¬ (V_3 37 0 j_5) < 0 → (∃ j_6 : Nat, x3 = nI j_6 ∧ j_6 < 4 ∧ ((0 ≤ (V_3 37 0 j_6) → (((V_3 37 0 j_5) = (V_3 37 0 j_6) → ((x2 < 0 → Q (some (aI (-1000000013))) V_3) ∧ (¬ x2 < 0 → ((x4 < 0 → Q (some (aI (-1000000013))) V_3) ∧ (¬ x4 < 0 → ((x5 < 0 → Q (some (aI (-1000000013))) V_3) ∧ (¬ x5 < 0 → ((((V_3 38 0 j_5) - x5) < x2 → Q (some (aI (-1000000013))) V_3) ∧ (¬ ((V_3 38 0 j_5) - x5) < x2 → ((x4 ≤ ((V_3 38 0 j_6) - x5) → I103 x1 x2 x3 x4 x5 0 V_3) ∧ (¬ x4 ≤ ((V_3 38 0 j_6) - x5) → Q (some (aI (-1000000013))) V_3))))))))))) ∧ (¬ (V_3 37 0 j_5) = (V_3 37 0 j_6) → Q (some (aI (-1000000012))) V_3))) ∧ (¬ 0 ≤ (V_3 37 0 j_6) → Q (some (aI (-1000000011))) V_3))))))) ∧ (x_4 = 0 → Q (some (aI (-1000000001))) V_3))))))))
set_option maxRecDepth 10000 in
theorem okX7_copy_0 {d : Nat} {P : Option AV → Mem → Prop} {I103 : Int32 → Int32 → Int32 → Int32 → Int32 → Int32 → Mem → Prop} {I140 : Int32 → Int32 → Int32 → Int32 → Int32 → Int32 → Mem → Prop}   (x1 : Int32) (x2 : Int32) (x3 : Int32) (x4 : Int32) (x5 : Int32)  (V : Mem) (hk103 : ∀ (x1 : Int32) (x2 : Int32) (x3 : Int32) (x4 : Int32) (x5 : Int32) (x6 : Int32), ∀ (V : Mem), I103 x1 x2 x3 x4 x5 x6 V → Gq (Kp (d + 1) mX7_copy UM P) UM cX7_copy 7 RX7 103 [(0, aR 24 0), (1, aI x1), (2, aI x2), (3, aI x3), (4, aI x4), (5, aI x5), (6, aI x6)] [] V) (hk140 : ∀ (x1 : Int32) (x2 : Int32) (x3 : Int32) (x4 : Int32) (x5 : Int32) (x6 : Int32), ∀ (V : Mem), I140 x1 x2 x3 x4 x5 x6 V → Gq (Kp (d + 1) mX7_copy UM P) UM cX7_copy 7 RX7 140 [(0, aR 24 0), (1, aI x1), (2, aI x2), (3, aI x3), (4, aI x4), (5, aI x5), (6, aI x6)] [] V) (h : wpX7_copy_0 (Cl UM d) I103 I140  x1 x2 x3 x4 x5 V P) : Gq (Kp (d + 1) mX7_copy UM P) UM cX7_copy 7 RX7 0 [(0, aR 24 0), (1, aI x1), (2, aI x2), (3, aI x3), (4, aI x4), (5, aI x5)] [] V := by
  unfold wpX7_copy_0 at h
  refine go_iload_n (q := 1) dX7_copy_0 rfl rfl ?_
  refine go_cSI (As := [aI x1]) (st := []) ms_X7_isSheet dX7_copy_1 ml_X7_177 (hr_Kp (Nat.le_refl d)) rfl rfl (Nat.le_of_ble_eq_true rfl) h (fun x_2 V_1 h => ?_)
  refine go_if_eq (tgt := 14) dX7_copy_4 (by decide) (fun c_16 => ?_) (fun c_16 => ?_)
  · have h := h.1 c_16
    refine go_ldc dX7_copy_14 ct_X7_84 ?_
    exact go_iret rfl dX7_copy_16 h
  · have h := h.2 c_16
    refine go_iload_n (q := 3) dX7_copy_7 rfl rfl ?_
    refine go_cSI (As := [aI x3]) (st := []) ms_X7_isSheet dX7_copy_8 ml_X7_177 (hr_Kp (Nat.le_refl d)) rfl rfl (Nat.le_of_ble_eq_true rfl) h (fun x_4 V_3 h => ?_)
    refine go_if_ne (tgt := 17) dX7_copy_11 (by decide) (fun c_15 => ?_) (fun c_15 => ?_)
    · have h := h.1 c_15
      refine go_aload_n (q := 0) dX7_copy_17 rfl rfl ?_
      refine go_getr fg_X7_48 dX7_copy_18 (mM (by decide) (by decide) rfl) ?_
      refine go_iload_n (q := 1) dX7_copy_21 rfl rfl ?_
      obtain ⟨j_5, e_j_5, l_j_5, h⟩ := h
      refine go_iald (r := 37) (n := 4) (j := j_5) rfl (by decide) dX7_copy_22 (mM (by decide) (by decide) rfl) e_j_5 l_j_5 ?_
      refine go_if_lt (tgt := 35) dX7_copy_23 (by decide) (fun c_14 => ?_) (fun c_14 => ?_)
      · have h := h.1 c_14
        refine go_ldc dX7_copy_35 ct_X7_180 ?_
        exact go_iret rfl dX7_copy_37 h
      · have h := h.2 c_14
        refine go_aload_n (q := 0) dX7_copy_26 rfl rfl ?_
        refine go_getr fg_X7_48 dX7_copy_27 (mM (by decide) (by decide) rfl) ?_
        refine go_iload_n (q := 3) dX7_copy_30 rfl rfl ?_
        obtain ⟨j_6, e_j_6, l_j_6, h⟩ := h
        refine go_iald (r := 37) (n := 4) (j := j_6) rfl (by decide) dX7_copy_31 (mM (by decide) (by decide) rfl) e_j_6 l_j_6 ?_
        refine go_if_ge (tgt := 38) dX7_copy_32 (by decide) (fun c_13 => ?_) (fun c_13 => ?_)
        · have h := h.1 c_13
          refine go_aload_n (q := 0) dX7_copy_38 rfl rfl ?_
          refine go_getr fg_X7_48 dX7_copy_39 (mM (by decide) (by decide) rfl) ?_
          refine go_iload_n (q := 1) dX7_copy_42 rfl rfl ?_
          refine go_iald (r := 37) (n := 4) (j := j_5) rfl (by decide) dX7_copy_43 (mM (by decide) (by decide) rfl) e_j_5 (by omega) ?_
          refine go_aload_n (q := 0) dX7_copy_44 rfl rfl ?_
          refine go_getr fg_X7_48 dX7_copy_45 (mM (by decide) (by decide) rfl) ?_
          refine go_iload_n (q := 3) dX7_copy_48 rfl rfl ?_
          refine go_iald (r := 37) (n := 4) (j := j_6) rfl (by decide) dX7_copy_49 (mM (by decide) (by decide) rfl) e_j_6 (by omega) ?_
          refine go_icmp_eq (tgt := 56) dX7_copy_50 (by decide) (fun c_12 => ?_) (fun c_12 => ?_)
          · have h := h.1 c_12
            refine go_iload_n (q := 2) dX7_copy_56 rfl rfl ?_
            refine go_if_lt (tgt := 97) dX7_copy_57 (by decide) (fun c_11 => ?_) (fun c_11 => ?_)
            · have h := h.1 c_11
              refine go_ldc dX7_copy_97 ct_X7_255 ?_
              exact go_iret rfl dX7_copy_99 h
            · have h := h.2 c_11
              refine go_iload (q := 4) dX7_copy_60 rfl ?_
              refine go_if_lt (tgt := 97) dX7_copy_62 (by decide) (fun c_10 => ?_) (fun c_10 => ?_)
              · have h := h.1 c_10
                refine go_ldc dX7_copy_97 ct_X7_255 ?_
                exact go_iret rfl dX7_copy_99 h
              · have h := h.2 c_10
                refine go_iload (q := 5) dX7_copy_65 rfl ?_
                refine go_if_lt (tgt := 97) dX7_copy_67 (by decide) (fun c_9 => ?_) (fun c_9 => ?_)
                · have h := h.1 c_9
                  refine go_ldc dX7_copy_97 ct_X7_255 ?_
                  exact go_iret rfl dX7_copy_99 h
                · have h := h.2 c_9
                  refine go_iload_n (q := 2) dX7_copy_70 rfl rfl ?_
                  refine go_aload_n (q := 0) dX7_copy_71 rfl rfl ?_
                  refine go_getr fg_X7_51 dX7_copy_72 (mM (by decide) (by decide) rfl) ?_
                  refine go_iload_n (q := 1) dX7_copy_75 rfl rfl ?_
                  refine go_iald (r := 38) (n := 4) (j := j_5) rfl (by decide) dX7_copy_76 (mM (by decide) (by decide) rfl) e_j_5 (by omega) ?_
                  refine go_iload (q := 5) dX7_copy_77 rfl ?_
                  refine go_isub dX7_copy_79 ?_
                  refine go_icmp_gt (tgt := 97) dX7_copy_80 (by decide) (fun c_8 => ?_) (fun c_8 => ?_)
                  · have h := h.1 c_8
                    refine go_ldc dX7_copy_97 ct_X7_255 ?_
                    exact go_iret rfl dX7_copy_99 h
                  · have h := h.2 c_8
                    refine go_iload (q := 4) dX7_copy_83 rfl ?_
                    refine go_aload_n (q := 0) dX7_copy_85 rfl rfl ?_
                    refine go_getr fg_X7_51 dX7_copy_86 (mM (by decide) (by decide) rfl) ?_
                    refine go_iload_n (q := 3) dX7_copy_89 rfl rfl ?_
                    refine go_iald (r := 38) (n := 4) (j := j_6) rfl (by decide) dX7_copy_90 (mM (by decide) (by decide) rfl) e_j_6 (by omega) ?_
                    refine go_iload (q := 5) dX7_copy_91 rfl ?_
                    refine go_isub dX7_copy_93 ?_
                    refine go_icmp_le (tgt := 100) dX7_copy_94 (by decide) (fun c_7 => ?_) (fun c_7 => ?_)
                    · have h := h.1 c_7
                      refine go_iconst (v := 0) dX7_copy_100 (by decide) ?_
                      refine go_istore (al1 := [(6, aI 0), (0, aR 24 0), (1, aI x1), (2, aI x2), (3, aI x3), (4, aI x4), (5, aI x5)]) dX7_copy_101 (by decide) rfl ?_
                      refine go_sub (al1 := [(0, aR 24 0), (1, aI x1), (2, aI x2), (3, aI x3), (4, aI x4), (5, aI x5), (6, aI 0)]) [1, 2, 3, 4, 5, 6, 0] rfl ?_
                      exact hk103 x1 x2 x3 x4 x5 0  V_3 h
                    · have h := h.2 c_7
                      refine go_ldc dX7_copy_97 ct_X7_255 ?_
                      exact go_iret rfl dX7_copy_99 h
          · have h := h.2 c_12
            refine go_ldc dX7_copy_53 ct_X7_131 ?_
            exact go_iret rfl dX7_copy_55 h
        · have h := h.2 c_13
          refine go_ldc dX7_copy_35 ct_X7_180 ?_
          exact go_iret rfl dX7_copy_37 h
    · have h := h.2 c_15
      refine go_ldc dX7_copy_14 ct_X7_84 ?_
      exact go_iret rfl dX7_copy_16 h
theorem clX7_copy {d : Nat} {P : Option AV → Mem → Prop} {I103 : Int32 → Int32 → Int32 → Int32 → Int32 → Int32 → Mem → Prop} {I140 : Int32 → Int32 → Int32 → Int32 → Int32 → Int32 → Mem → Prop}   (x1 : Int32) (x2 : Int32) (x3 : Int32) (x4 : Int32) (x5 : Int32) (V : Mem) (hk103 : ∀ (x1 : Int32) (x2 : Int32) (x3 : Int32) (x4 : Int32) (x5 : Int32) (x6 : Int32), ∀ (V : Mem), I103 x1 x2 x3 x4 x5 x6 V → Gq (Kp (d + 1) mX7_copy UM P) UM cX7_copy 7 RX7 103 [(0, aR 24 0), (1, aI x1), (2, aI x2), (3, aI x3), (4, aI x4), (5, aI x5), (6, aI x6)] [] V) (hk140 : ∀ (x1 : Int32) (x2 : Int32) (x3 : Int32) (x4 : Int32) (x5 : Int32) (x6 : Int32), ∀ (V : Mem), I140 x1 x2 x3 x4 x5 x6 V → Gq (Kp (d + 1) mX7_copy UM P) UM cX7_copy 7 RX7 140 [(0, aR 24 0), (1, aI x1), (2, aI x2), (3, aI x3), (4, aI x4), (5, aI x5), (6, aI x6)] [] V) (h : wpX7_copy_0 (Cl UM d) I103 I140  x1 x2 x3 x4 x5 V P) : Cl UM (d + 1) mX7_copy [aR 24 0, aI x1, aI x2, aI x3, aI x4, aI x5] V P :=
  cl_of [(0, aR 24 0), (1, aI x1), (2, aI x2), (3, aI x3), (4, aI x4), (5, aI x5)] (by decide) (fun _ => Nat.le_of_ble_eq_true rfl) (fun _ => rfl) (okX7_copy_0   x1 x2 x3 x4 x5 V hk103 hk140 h)
theorem dX7_lay_0 : decode cX7_lay 0 = .ok (.iload_n 1, 1) := by decide +kernel
theorem dX7_lay_1 : decode cX7_lay 1 = .ok (.invokestatic 257, 3) := by decide +kernel
theorem dX7_lay_4 : decode cX7_lay 4 = .ok (.ifCond .eq 37, 3) := by decide +kernel
theorem dX7_lay_7 : decode cX7_lay 7 = .ok (.iload_n 2, 1) := by decide +kernel
theorem dX7_lay_8 : decode cX7_lay 8 = .ok (.iconst 0, 1) := by decide +kernel
theorem dX7_lay_9 : decode cX7_lay 9 = .ok (.iconst 3, 1) := by decide +kernel
theorem dX7_lay_10 : decode cX7_lay 10 = .ok (.invokestatic 76, 3) := by decide +kernel
theorem dX7_lay_13 : decode cX7_lay 13 = .ok (.ifCond .eq 28, 3) := by decide +kernel
theorem dX7_lay_16 : decode cX7_lay 16 = .ok (.iload_n 2, 1) := by decide +kernel
theorem dX7_lay_17 : decode cX7_lay 17 = .ok (.iconst 1, 1) := by decide +kernel
theorem dX7_lay_18 : decode cX7_lay 18 = .ok (.if_icmp .ne 11, 3) := by decide +kernel
theorem dX7_lay_21 : decode cX7_lay 21 = .ok (.aload_n 0, 1) := by decide +kernel
theorem dX7_lay_22 : decode cX7_lay 22 = .ok (.iload_n 3, 1) := by decide +kernel
theorem dX7_lay_23 : decode cX7_lay 23 = .ok (.invokevirtual 111, 3) := by decide +kernel
theorem dX7_lay_26 : decode cX7_lay 26 = .ok (.ifCond .eq 15, 3) := by decide +kernel
theorem dX7_lay_29 : decode cX7_lay 29 = .ok (.iload_n 2, 1) := by decide +kernel
theorem dX7_lay_30 : decode cX7_lay 30 = .ok (.iconst 2, 1) := by decide +kernel
theorem dX7_lay_31 : decode cX7_lay 31 = .ok (.if_icmp .ne 13, 3) := by decide +kernel
theorem dX7_lay_34 : decode cX7_lay 34 = .ok (.iload_n 3, 1) := by decide +kernel
theorem dX7_lay_35 : decode cX7_lay 35 = .ok (.invokestatic 177, 3) := by decide +kernel
theorem dX7_lay_38 : decode cX7_lay 38 = .ok (.ifCond .ne 6, 3) := by decide +kernel
theorem dX7_lay_41 : decode cX7_lay 41 = .ok (.ldc 84, 2) := by decide +kernel
theorem dX7_lay_43 : decode cX7_lay 43 = .ok (.ireturn, 1) := by decide +kernel
theorem dX7_lay_44 : decode cX7_lay 44 = .ok (.iload_n 2, 1) := by decide +kernel
theorem dX7_lay_45 : decode cX7_lay 45 = .ok (.iconst 2, 1) := by decide +kernel
theorem dX7_lay_46 : decode cX7_lay 46 = .ok (.if_icmp .ne 15, 3) := by decide +kernel
theorem dX7_lay_49 : decode cX7_lay 49 = .ok (.aload_n 0, 1) := by decide +kernel
theorem dX7_lay_50 : decode cX7_lay 50 = .ok (.getfield 48, 3) := by decide +kernel
theorem dX7_lay_53 : decode cX7_lay 53 = .ok (.iload_n 3, 1) := by decide +kernel
theorem dX7_lay_54 : decode cX7_lay 54 = .ok (.iaload, 1) := by decide +kernel
theorem dX7_lay_55 : decode cX7_lay 55 = .ok (.ifCond .ge 6, 3) := by decide +kernel
theorem dX7_lay_58 : decode cX7_lay 58 = .ok (.ldc 180, 2) := by decide +kernel
theorem dX7_lay_60 : decode cX7_lay 60 = .ok (.ireturn, 1) := by decide +kernel
theorem dX7_lay_61 : decode cX7_lay 61 = .ok (.aload_n 0, 1) := by decide +kernel
theorem dX7_lay_62 : decode cX7_lay 62 = .ok (.getfield 57, 3) := by decide +kernel
theorem dX7_lay_65 : decode cX7_lay 65 = .ok (.iload_n 1, 1) := by decide +kernel
theorem dX7_lay_66 : decode cX7_lay 66 = .ok (.iaload, 1) := by decide +kernel
theorem dX7_lay_67 : decode cX7_lay 67 = .ok (.istore 4, 2) := by decide +kernel
theorem dX7_lay_69 : decode cX7_lay 69 = .ok (.aload_n 0, 1) := by decide +kernel
theorem dX7_lay_70 : decode cX7_lay 70 = .ok (.getfield 57, 3) := by decide +kernel
theorem dX7_lay_73 : decode cX7_lay 73 = .ok (.iload_n 1, 1) := by decide +kernel
theorem dX7_lay_74 : decode cX7_lay 74 = .ok (.iload_n 2, 1) := by decide +kernel
theorem dX7_lay_75 : decode cX7_lay 75 = .ok (.iastore, 1) := by decide +kernel
theorem dX7_lay_76 : decode cX7_lay 76 = .ok (.aload_n 0, 1) := by decide +kernel
theorem dX7_lay_77 : decode cX7_lay 77 = .ok (.getfield 60, 3) := by decide +kernel
theorem dX7_lay_80 : decode cX7_lay 80 = .ok (.iload_n 1, 1) := by decide +kernel
theorem dX7_lay_81 : decode cX7_lay 81 = .ok (.iload_n 2, 1) := by decide +kernel
theorem dX7_lay_82 : decode cX7_lay 82 = .ok (.iconst 1, 1) := by decide +kernel
theorem dX7_lay_83 : decode cX7_lay 83 = .ok (.if_icmp .ne 12, 3) := by decide +kernel
theorem dX7_lay_86 : decode cX7_lay 86 = .ok (.aload_n 0, 1) := by decide +kernel
theorem dX7_lay_87 : decode cX7_lay 87 = .ok (.iload_n 3, 1) := by decide +kernel
theorem dX7_lay_88 : decode cX7_lay 88 = .ok (.iconst 0, 1) := by decide +kernel
theorem dX7_lay_89 : decode cX7_lay 89 = .ok (.invokevirtual 94, 3) := by decide +kernel
theorem dX7_lay_92 : decode cX7_lay 92 = .ok (.goto 18, 3) := by decide +kernel
theorem dX7_lay_95 : decode cX7_lay 95 = .ok (.iload_n 2, 1) := by decide +kernel
theorem dX7_lay_96 : decode cX7_lay 96 = .ok (.iconst 2, 1) := by decide +kernel
theorem dX7_lay_97 : decode cX7_lay 97 = .ok (.if_icmp .ne 12, 3) := by decide +kernel
theorem dX7_lay_100 : decode cX7_lay 100 = .ok (.aload_n 0, 1) := by decide +kernel
theorem dX7_lay_101 : decode cX7_lay 101 = .ok (.getfield 51, 3) := by decide +kernel
theorem dX7_lay_104 : decode cX7_lay 104 = .ok (.iload_n 3, 1) := by decide +kernel
theorem dX7_lay_105 : decode cX7_lay 105 = .ok (.iaload, 1) := by decide +kernel
theorem dX7_lay_106 : decode cX7_lay 106 = .ok (.goto 4, 3) := by decide +kernel
theorem dX7_lay_109 : decode cX7_lay 109 = .ok (.iload_n 3, 1) := by decide +kernel
theorem dX7_lay_110 : decode cX7_lay 110 = .ok (.iastore, 1) := by decide +kernel
theorem dX7_lay_111 : decode cX7_lay 111 = .ok (.aload_n 0, 1) := by decide +kernel
theorem dX7_lay_112 : decode cX7_lay 112 = .ok (.getfield 63, 3) := by decide +kernel
theorem dX7_lay_115 : decode cX7_lay 115 = .ok (.iload_n 1, 1) := by decide +kernel
theorem dX7_lay_116 : decode cX7_lay 116 = .ok (.iload_n 2, 1) := by decide +kernel
theorem dX7_lay_117 : decode cX7_lay 117 = .ok (.iconst 1, 1) := by decide +kernel
theorem dX7_lay_118 : decode cX7_lay 118 = .ok (.if_icmp .ne 11, 3) := by decide +kernel
theorem dX7_lay_121 : decode cX7_lay 121 = .ok (.aload_n 0, 1) := by decide +kernel
theorem dX7_lay_122 : decode cX7_lay 122 = .ok (.iload_n 3, 1) := by decide +kernel
theorem dX7_lay_123 : decode cX7_lay 123 = .ok (.invokevirtual 124, 3) := by decide +kernel
theorem dX7_lay_126 : decode cX7_lay 126 = .ok (.goto 4, 3) := by decide +kernel
theorem dX7_lay_129 : decode cX7_lay 129 = .ok (.iconst 0, 1) := by decide +kernel
theorem dX7_lay_130 : decode cX7_lay 130 = .ok (.iastore, 1) := by decide +kernel
theorem dX7_lay_131 : decode cX7_lay 131 = .ok (.iconst 0, 1) := by decide +kernel
theorem dX7_lay_132 : decode cX7_lay 132 = .ok (.istore 5, 2) := by decide +kernel
theorem dX7_lay_134 : decode cX7_lay 134 = .ok (.iload 5, 2) := by decide +kernel
theorem dX7_lay_136 : decode cX7_lay 136 = .ok (.bipush 24, 2) := by decide +kernel
theorem dX7_lay_138 : decode cX7_lay 138 = .ok (.if_icmp .ge 38, 3) := by decide +kernel
theorem dX7_lay_141 : decode cX7_lay 141 = .ok (.iload_n 2, 1) := by decide +kernel
theorem dX7_lay_142 : decode cX7_lay 142 = .ok (.iconst 2, 1) := by decide +kernel
theorem dX7_lay_143 : decode cX7_lay 143 = .ok (.if_icmp .ne 33, 3) := by decide +kernel
theorem dX7_lay_146 : decode cX7_lay 146 = .ok (.aload_n 0, 1) := by decide +kernel
theorem dX7_lay_147 : decode cX7_lay 147 = .ok (.getfield 66, 3) := by decide +kernel
theorem dX7_lay_150 : decode cX7_lay 150 = .ok (.bipush 24, 2) := by decide +kernel
theorem dX7_lay_152 : decode cX7_lay 152 = .ok (.iload_n 1, 1) := by decide +kernel
theorem dX7_lay_153 : decode cX7_lay 153 = .ok (.imul, 1) := by decide +kernel
theorem dX7_lay_154 : decode cX7_lay 154 = .ok (.iload 5, 2) := by decide +kernel
theorem dX7_lay_156 : decode cX7_lay 156 = .ok (.iadd, 1) := by decide +kernel
theorem dX7_lay_157 : decode cX7_lay 157 = .ok (.aload_n 0, 1) := by decide +kernel
theorem dX7_lay_158 : decode cX7_lay 158 = .ok (.getfield 54, 3) := by decide +kernel
theorem dX7_lay_161 : decode cX7_lay 161 = .ok (.bipush 24, 2) := by decide +kernel
theorem dX7_lay_163 : decode cX7_lay 163 = .ok (.iload_n 3, 1) := by decide +kernel
theorem dX7_lay_164 : decode cX7_lay 164 = .ok (.imul, 1) := by decide +kernel
theorem dX7_lay_165 : decode cX7_lay 165 = .ok (.iload 5, 2) := by decide +kernel
theorem dX7_lay_167 : decode cX7_lay 167 = .ok (.iadd, 1) := by decide +kernel
theorem dX7_lay_168 : decode cX7_lay 168 = .ok (.iaload, 1) := by decide +kernel
theorem dX7_lay_169 : decode cX7_lay 169 = .ok (.iastore, 1) := by decide +kernel
theorem dX7_lay_170 : decode cX7_lay 170 = .ok (.iinc 5 1, 3) := by decide +kernel
theorem dX7_lay_173 : decode cX7_lay 173 = .ok (.goto (-39), 3) := by decide +kernel
theorem dX7_lay_176 : decode cX7_lay 176 = .ok (.iload 4, 2) := by decide +kernel
theorem dX7_lay_178 : decode cX7_lay 178 = .ok (.ireturn, 1) := by decide +kernel
def wpX7_lay_134 (C : CT) (I134 : Int32 → Int32 → Int32 → Int32 → Int32 → Mem → Prop)  (x1 : Int32) (x2 : Int32) (x3 : Int32) (x4 : Int32) (x5 : Int32) (V : Mem) (Q : Option AV → Mem → Prop) : Prop :=
  ((24 ≤ x5 → Q (some (aI x4)) V) ∧ (¬ 24 ≤ x5 → ((¬ x2 = 2 → Q (some (aI x4)) V) ∧ (x2 = 2 → (∃ j_1 : Nat, ((24 * x3) + x5) = nI j_1 ∧ j_1 < 96 ∧ (∃ j_2 : Nat, ((24 * x1) + x5) = nI j_2 ∧ j_2 < 120 ∧ (∀ V_3 : Mem, V_3 = mu V 43 0 j_2 (V 39 0 j_1) → I134 x1 x2 x3 x4 (x5 + 1) V_3)))))))
set_option maxRecDepth 10000 in
theorem okX7_lay_134 {d : Nat} {P : Option AV → Mem → Prop} {I134 : Int32 → Int32 → Int32 → Int32 → Int32 → Mem → Prop}   (x1 : Int32) (x2 : Int32) (x3 : Int32) (x4 : Int32) (x5 : Int32)  (V : Mem) (hk134 : ∀ (x1 : Int32) (x2 : Int32) (x3 : Int32) (x4 : Int32) (x5 : Int32), ∀ (V : Mem), I134 x1 x2 x3 x4 x5 V → Gq (Kp (d + 1) mX7_lay UM P) UM cX7_lay 6 RX7 134 [(0, aR 24 0), (1, aI x1), (2, aI x2), (3, aI x3), (4, aI x4), (5, aI x5)] [] V) (h : wpX7_lay_134 (Cl UM d) I134  x1 x2 x3 x4 x5 V P) : Gq (Kp (d + 1) mX7_lay UM P) UM cX7_lay 6 RX7 134 [(0, aR 24 0), (1, aI x1), (2, aI x2), (3, aI x3), (4, aI x4), (5, aI x5)] [] V := by
  unfold wpX7_lay_134 at h
  refine go_iload (q := 5) dX7_lay_134 rfl ?_
  refine go_bipush (v := 24) dX7_lay_136 (by decide) ?_
  refine go_icmp_ge (tgt := 176) dX7_lay_138 (by decide) (fun c_5 => ?_) (fun c_5 => ?_)
  · have h := h.1 c_5
    refine go_iload (q := 4) dX7_lay_176 rfl ?_
    exact go_iret rfl dX7_lay_178 h
  · have h := h.2 c_5
    refine go_iload_n (q := 2) dX7_lay_141 rfl rfl ?_
    refine go_iconst (v := 2) dX7_lay_142 (by decide) ?_
    refine go_icmp_ne (tgt := 176) dX7_lay_143 (by decide) (fun c_4 => ?_) (fun c_4 => ?_)
    · have h := h.1 c_4
      refine go_iload (q := 4) dX7_lay_176 rfl ?_
      exact go_iret rfl dX7_lay_178 h
    · have h := h.2 c_4
      refine go_aload_n (q := 0) dX7_lay_146 rfl rfl ?_
      refine go_getr fg_X7_66 dX7_lay_147 (mM (by decide) (by decide) rfl) ?_
      refine go_bipush (v := 24) dX7_lay_150 (by decide) ?_
      refine go_iload_n (q := 1) dX7_lay_152 rfl rfl ?_
      refine go_imul dX7_lay_153 ?_
      refine go_iload (q := 5) dX7_lay_154 rfl ?_
      refine go_iadd dX7_lay_156 ?_
      refine go_aload_n (q := 0) dX7_lay_157 rfl rfl ?_
      refine go_getr fg_X7_54 dX7_lay_158 (mM (by decide) (by decide) rfl) ?_
      refine go_bipush (v := 24) dX7_lay_161 (by decide) ?_
      refine go_iload_n (q := 3) dX7_lay_163 rfl rfl ?_
      refine go_imul dX7_lay_164 ?_
      refine go_iload (q := 5) dX7_lay_165 rfl ?_
      refine go_iadd dX7_lay_167 ?_
      obtain ⟨j_1, e_j_1, l_j_1, h⟩ := h
      refine go_iald (r := 39) (n := 96) (j := j_1) rfl (by decide) dX7_lay_168 (mM (by decide) (by decide) rfl) e_j_1 l_j_1 ?_
      obtain ⟨j_2, e_j_2, l_j_2, h⟩ := h
      refine go_iast (r := 43) (n := 120) (j := j_2) rfl (by decide) dX7_lay_169 (mM (by decide) (by decide) rfl) e_j_2 l_j_2 ?_
      refine nmV (fun V_3 e_V_3 => ?_)
      have h := h V_3 e_V_3
      refine go_iinc (q := 5) (y := 1) (al1 := [(5, aI (x5 + 1)), (0, aR 24 0), (1, aI x1), (2, aI x2), (3, aI x3), (4, aI x4)]) dX7_lay_170 rfl (by decide) (by decide) rfl ?_
      refine go_goto (tgt := 134) dX7_lay_173 (by decide) ?_
      refine go_sub (al1 := [(0, aR 24 0), (1, aI x1), (2, aI x2), (3, aI x3), (4, aI x4), (5, aI (x5 + 1))]) [1, 2, 3, 4, 5, 0] rfl ?_
      exact hk134 x1 x2 x3 x4 (x5 + 1)  V_3 h
def wpX7_lay_110 (C : CT) (I134 : Int32 → Int32 → Int32 → Int32 → Int32 → Mem → Prop)  (x1 : Int32) (x2 : Int32) (x3 : Int32) (x4 : Int32) (s0 : Int32) (s1 : Int32) (V : Mem) (Q : Option AV → Mem → Prop) : Prop :=
  (∃ j_1 : Nat, s1 = nI j_1 ∧ j_1 < 5 ∧ (∀ V_2 : Mem, V_2 = mu V 41 0 j_1 s0 → ((¬ x2 = 1 → (∃ j_3 : Nat, x1 = nI j_3 ∧ j_3 < 5 ∧ (∀ V_4 : Mem, V_4 = mu V_2 42 0 j_3 0 → I134 x1 x2 x3 x4 0 V_4))) ∧ (x2 = 1 → (cI C mX7_worthOf [aR 24 0, aI x3] V_2 (fun x_6 V_5 => (∃ j_7 : Nat, x1 = nI j_7 ∧ j_7 < 5 ∧ (∀ V_8 : Mem, V_8 = mu V_5 42 0 j_7 x_6 → I134 x1 x2 x3 x4 0 V_8))))))))
set_option maxRecDepth 10000 in
theorem okX7_lay_110 {d : Nat} {P : Option AV → Mem → Prop} {I134 : Int32 → Int32 → Int32 → Int32 → Int32 → Mem → Prop}   (x1 : Int32) (x2 : Int32) (x3 : Int32) (x4 : Int32) (s0 : Int32) (s1 : Int32)  (V : Mem) (hk134 : ∀ (x1 : Int32) (x2 : Int32) (x3 : Int32) (x4 : Int32) (x5 : Int32), ∀ (V : Mem), I134 x1 x2 x3 x4 x5 V → Gq (Kp (d + 1) mX7_lay UM P) UM cX7_lay 6 RX7 134 [(0, aR 24 0), (1, aI x1), (2, aI x2), (3, aI x3), (4, aI x4), (5, aI x5)] [] V) (h : wpX7_lay_110 (Cl UM d) I134  x1 x2 x3 x4 s0 s1 V P) : Gq (Kp (d + 1) mX7_lay UM P) UM cX7_lay 6 RX7 110 [(0, aR 24 0), (1, aI x1), (2, aI x2), (3, aI x3), (4, aI x4)] [aI s0, aI s1, aR 41 0] V := by
  unfold wpX7_lay_110 at h
  obtain ⟨j_1, e_j_1, l_j_1, h⟩ := h
  refine go_iast (r := 41) (n := 5) (j := j_1) rfl (by decide) dX7_lay_110 (mM (by decide) (by decide) rfl) e_j_1 l_j_1 ?_
  refine nmV (fun V_2 e_V_2 => ?_)
  have h := h V_2 e_V_2
  refine go_aload_n (q := 0) dX7_lay_111 rfl rfl ?_
  refine go_getr fg_X7_63 dX7_lay_112 (mM (by decide) (by decide) rfl) ?_
  refine go_iload_n (q := 1) dX7_lay_115 rfl rfl ?_
  refine go_iload_n (q := 2) dX7_lay_116 rfl rfl ?_
  refine go_iconst (v := 1) dX7_lay_117 (by decide) ?_
  refine go_icmp_ne (tgt := 129) dX7_lay_118 (by decide) (fun c_9 => ?_) (fun c_9 => ?_)
  · have h := h.1 c_9
    refine go_iconst (v := 0) dX7_lay_129 (by decide) ?_
    obtain ⟨j_3, e_j_3, l_j_3, h⟩ := h
    refine go_iast (r := 42) (n := 5) (j := j_3) rfl (by decide) dX7_lay_130 (mM (by decide) (by decide) rfl) e_j_3 l_j_3 ?_
    refine nmV (fun V_4 e_V_4 => ?_)
    have h := h V_4 e_V_4
    refine go_iconst (v := 0) dX7_lay_131 (by decide) ?_
    refine go_istore (al1 := [(5, aI 0), (0, aR 24 0), (1, aI x1), (2, aI x2), (3, aI x3), (4, aI x4)]) dX7_lay_132 (by decide) rfl ?_
    refine go_sub (al1 := [(0, aR 24 0), (1, aI x1), (2, aI x2), (3, aI x3), (4, aI x4), (5, aI 0)]) [1, 2, 3, 4, 5, 0] rfl ?_
    exact hk134 x1 x2 x3 x4 0  V_4 h
  · have h := h.2 c_9
    refine go_aload_n (q := 0) dX7_lay_121 rfl rfl ?_
    refine go_iload_n (q := 3) dX7_lay_122 rfl rfl ?_
    refine go_cVI (As := [aI x3]) (st := [aI x1, aR 42 0]) (r := 24) (i := 0) mv_X7_worthOf dX7_lay_123 ml_X7_124 (hr_Kp (Nat.le_refl d)) rfl rfl (mM (by decide) (by decide) rfl) rfl rfl (Nat.le_of_ble_eq_true rfl) h (fun x_6 V_5 h => ?_)
    refine go_goto (tgt := 130) dX7_lay_126 (by decide) ?_
    obtain ⟨j_7, e_j_7, l_j_7, h⟩ := h
    refine go_iast (r := 42) (n := 5) (j := j_7) rfl (by decide) dX7_lay_130 (mM (by decide) (by decide) rfl) e_j_7 l_j_7 ?_
    refine nmV (fun V_8 e_V_8 => ?_)
    have h := h V_8 e_V_8
    refine go_iconst (v := 0) dX7_lay_131 (by decide) ?_
    refine go_istore (al1 := [(5, aI 0), (0, aR 24 0), (1, aI x1), (2, aI x2), (3, aI x3), (4, aI x4)]) dX7_lay_132 (by decide) rfl ?_
    refine go_sub (al1 := [(0, aR 24 0), (1, aI x1), (2, aI x2), (3, aI x3), (4, aI x4), (5, aI 0)]) [1, 2, 3, 4, 5, 0] rfl ?_
    exact hk134 x1 x2 x3 x4 0  V_8 h
def wpX7_lay_61 (C : CT) (I134 : Int32 → Int32 → Int32 → Int32 → Int32 → Mem → Prop)  (x1 : Int32) (x2 : Int32) (x3 : Int32) (V : Mem) (Q : Option AV → Mem → Prop) : Prop :=
  (∃ j_1 : Nat, x1 = nI j_1 ∧ j_1 < 5 ∧ (∀ z_2 : Int32, z_2 = (V 40 0 j_1) → (∀ V_3 : Mem, V_3 = mu V 40 0 j_1 x2 → ((¬ x2 = 1 → ((¬ x2 = 2 → wpX7_lay_110 C I134  x1 x2 x3 z_2 x3 x1 V_3 Q) ∧ (x2 = 2 → (∃ j_4 : Nat, x3 = nI j_4 ∧ j_4 < 4 ∧ wpX7_lay_110 C I134  x1 x2 x3 z_2 (V_3 38 0 j_4) x1 V_3 Q)))) ∧ (x2 = 1 → (cI C mX7_of [aR 24 0, aI x3, aI 0] V_3 (fun x_7 V_6 => wpX7_lay_110 C I134  x1 x2 x3 z_2 x_7 x1 V_6 Q)))))))
set_option maxRecDepth 10000 in
theorem okX7_lay_61 {d : Nat} {P : Option AV → Mem → Prop} {I134 : Int32 → Int32 → Int32 → Int32 → Int32 → Mem → Prop}   (x1 : Int32) (x2 : Int32) (x3 : Int32)  (V : Mem) (hk134 : ∀ (x1 : Int32) (x2 : Int32) (x3 : Int32) (x4 : Int32) (x5 : Int32), ∀ (V : Mem), I134 x1 x2 x3 x4 x5 V → Gq (Kp (d + 1) mX7_lay UM P) UM cX7_lay 6 RX7 134 [(0, aR 24 0), (1, aI x1), (2, aI x2), (3, aI x3), (4, aI x4), (5, aI x5)] [] V) (h : wpX7_lay_61 (Cl UM d) I134  x1 x2 x3 V P) : Gq (Kp (d + 1) mX7_lay UM P) UM cX7_lay 6 RX7 61 [(0, aR 24 0), (1, aI x1), (2, aI x2), (3, aI x3)] [] V := by
  unfold wpX7_lay_61 at h
  refine go_aload_n (q := 0) dX7_lay_61 rfl rfl ?_
  refine go_getr fg_X7_57 dX7_lay_62 (mM (by decide) (by decide) rfl) ?_
  refine go_iload_n (q := 1) dX7_lay_65 rfl rfl ?_
  obtain ⟨j_1, e_j_1, l_j_1, h⟩ := h
  refine go_iald (r := 40) (n := 5) (j := j_1) rfl (by decide) dX7_lay_66 (mM (by decide) (by decide) rfl) e_j_1 l_j_1 ?_
  refine nmI (fun z_2 e_z_2 => ?_)
  have h := h z_2 e_z_2
  refine go_istore (al1 := [(4, aI z_2), (0, aR 24 0), (1, aI x1), (2, aI x2), (3, aI x3)]) dX7_lay_67 (by decide) rfl ?_
  refine go_aload_n (q := 1) dX7_lay_69 rfl rfl ?_
  refine go_getr fg_X7_57 dX7_lay_70 (mM (by decide) (by decide) rfl) ?_
  refine go_iload_n (q := 2) dX7_lay_73 rfl rfl ?_
  refine go_iload_n (q := 3) dX7_lay_74 rfl rfl ?_
  refine go_iast (r := 40) (n := 5) (j := j_1) rfl (by decide) dX7_lay_75 (mM (by decide) (by decide) rfl) e_j_1 (by omega) ?_
  refine nmV (fun V_3 e_V_3 => ?_)
  have h := h V_3 e_V_3
  refine go_aload_n (q := 1) dX7_lay_76 rfl rfl ?_
  refine go_getr fg_X7_60 dX7_lay_77 (mM (by decide) (by decide) rfl) ?_
  refine go_iload_n (q := 2) dX7_lay_80 rfl rfl ?_
  refine go_iload_n (q := 3) dX7_lay_81 rfl rfl ?_
  refine go_iconst (v := 1) dX7_lay_82 (by decide) ?_
  refine go_icmp_ne (tgt := 95) dX7_lay_83 (by decide) (fun c_8 => ?_) (fun c_8 => ?_)
  · have h := h.1 c_8
    refine go_iload_n (q := 3) dX7_lay_95 rfl rfl ?_
    refine go_iconst (v := 2) dX7_lay_96 (by decide) ?_
    refine go_icmp_ne (tgt := 109) dX7_lay_97 (by decide) (fun c_5 => ?_) (fun c_5 => ?_)
    · have h := h.1 c_5
      refine go_iload_n (q := 4) dX7_lay_109 rfl rfl ?_
      refine go_sub (al1 := [(0, aR 24 0), (1, aI x1), (2, aI x2), (3, aI x3), (4, aI z_2)]) [1, 2, 3, 4, 0] rfl ?_
      exact okX7_lay_110   x1 x2 x3 z_2 x3 x1  V_3 hk134 h
    · have h := h.2 c_5
      refine go_aload_n (q := 1) dX7_lay_100 rfl rfl ?_
      refine go_getr fg_X7_51 dX7_lay_101 (mM (by decide) (by decide) rfl) ?_
      refine go_iload_n (q := 4) dX7_lay_104 rfl rfl ?_
      obtain ⟨j_4, e_j_4, l_j_4, h⟩ := h
      refine go_iald (r := 38) (n := 4) (j := j_4) rfl (by decide) dX7_lay_105 (mM (by decide) (by decide) rfl) e_j_4 l_j_4 ?_
      refine go_goto (tgt := 110) dX7_lay_106 (by decide) ?_
      refine go_sub (al1 := [(0, aR 24 0), (1, aI x1), (2, aI x2), (3, aI x3), (4, aI z_2)]) [1, 2, 3, 4, 0] rfl ?_
      exact okX7_lay_110   x1 x2 x3 z_2 (V_3 38 0 j_4) x1  V_3 hk134 h
  · have h := h.2 c_8
    refine go_aload_n (q := 1) dX7_lay_86 rfl rfl ?_
    refine go_iload_n (q := 4) dX7_lay_87 rfl rfl ?_
    refine go_iconst (v := 0) dX7_lay_88 (by decide) ?_
    refine go_cVI (As := [aI x3, aI 0]) (st := [aI x1, aR 41 0]) (r := 24) (i := 0) mv_X7_of dX7_lay_89 ml_X7_94 (hr_Kp (Nat.le_refl d)) rfl rfl (mM (by decide) (by decide) rfl) rfl rfl (Nat.le_of_ble_eq_true rfl) h (fun x_7 V_6 h => ?_)
    refine go_goto (tgt := 110) dX7_lay_92 (by decide) ?_
    refine go_sub (al1 := [(0, aR 24 0), (1, aI x1), (2, aI x2), (3, aI x3), (4, aI z_2)]) [1, 2, 3, 4, 0] rfl ?_
    exact okX7_lay_110   x1 x2 x3 z_2 x_7 x1  V_6 hk134 h
def wpX7_lay_44 (C : CT) (I134 : Int32 → Int32 → Int32 → Int32 → Int32 → Mem → Prop)  (x1 : Int32) (x2 : Int32) (x3 : Int32) (V : Mem) (Q : Option AV → Mem → Prop) : Prop :=
  ((¬ x2 = 2 → wpX7_lay_61 C I134  x1 x2 x3 V Q) ∧ (x2 = 2 → (∃ j_1 : Nat, x3 = nI j_1 ∧ j_1 < 4 ∧ ((0 ≤ (V 37 0 j_1) → wpX7_lay_61 C I134  x1 x2 x3 V Q) ∧ (¬ 0 ≤ (V 37 0 j_1) → Q (some (aI (-1000000011))) V)))))
set_option maxRecDepth 10000 in
theorem okX7_lay_44 {d : Nat} {P : Option AV → Mem → Prop} {I134 : Int32 → Int32 → Int32 → Int32 → Int32 → Mem → Prop}   (x1 : Int32) (x2 : Int32) (x3 : Int32)  (V : Mem) (hk134 : ∀ (x1 : Int32) (x2 : Int32) (x3 : Int32) (x4 : Int32) (x5 : Int32), ∀ (V : Mem), I134 x1 x2 x3 x4 x5 V → Gq (Kp (d + 1) mX7_lay UM P) UM cX7_lay 6 RX7 134 [(0, aR 24 0), (1, aI x1), (2, aI x2), (3, aI x3), (4, aI x4), (5, aI x5)] [] V) (h : wpX7_lay_44 (Cl UM d) I134  x1 x2 x3 V P) : Gq (Kp (d + 1) mX7_lay UM P) UM cX7_lay 6 RX7 44 [(0, aR 24 0), (1, aI x1), (2, aI x2), (3, aI x3)] [] V := by
  unfold wpX7_lay_44 at h
  refine go_iload_n (q := 2) dX7_lay_44 rfl rfl ?_
  refine go_iconst (v := 2) dX7_lay_45 (by decide) ?_
  refine go_icmp_ne (tgt := 61) dX7_lay_46 (by decide) (fun c_3 => ?_) (fun c_3 => ?_)
  · have h := h.1 c_3
    exact okX7_lay_61   x1 x2 x3  V hk134 h
  · have h := h.2 c_3
    refine go_aload_n (q := 0) dX7_lay_49 rfl rfl ?_
    refine go_getr fg_X7_48 dX7_lay_50 (mM (by decide) (by decide) rfl) ?_
    refine go_iload_n (q := 3) dX7_lay_53 rfl rfl ?_
    obtain ⟨j_1, e_j_1, l_j_1, h⟩ := h
    refine go_iald (r := 37) (n := 4) (j := j_1) rfl (by decide) dX7_lay_54 (mM (by decide) (by decide) rfl) e_j_1 l_j_1 ?_
    refine go_if_ge (tgt := 61) dX7_lay_55 (by decide) (fun c_2 => ?_) (fun c_2 => ?_)
    · have h := h.1 c_2
      exact okX7_lay_61   x1 x2 x3  V hk134 h
    · have h := h.2 c_2
      refine go_ldc dX7_lay_58 ct_X7_180 ?_
      exact go_iret rfl dX7_lay_60 h
def wpX7_lay_29 (C : CT) (I134 : Int32 → Int32 → Int32 → Int32 → Int32 → Mem → Prop)  (x1 : Int32) (x2 : Int32) (x3 : Int32) (V : Mem) (Q : Option AV → Mem → Prop) : Prop :=
  ((¬ x2 = 2 → wpX7_lay_44 C I134  x1 x2 x3 V Q) ∧ (x2 = 2 → (cI C mX7_isSheet [aI x3] V (fun x_2 V_1 => ((¬ x_2 = 0 → wpX7_lay_44 C I134  x1 x2 x3 V_1 Q) ∧ (x_2 = 0 → Q (some (aI (-1000000001))) V_1))))))
set_option maxRecDepth 10000 in
theorem okX7_lay_29 {d : Nat} {P : Option AV → Mem → Prop} {I134 : Int32 → Int32 → Int32 → Int32 → Int32 → Mem → Prop}   (x1 : Int32) (x2 : Int32) (x3 : Int32)  (V : Mem) (hk134 : ∀ (x1 : Int32) (x2 : Int32) (x3 : Int32) (x4 : Int32) (x5 : Int32), ∀ (V : Mem), I134 x1 x2 x3 x4 x5 V → Gq (Kp (d + 1) mX7_lay UM P) UM cX7_lay 6 RX7 134 [(0, aR 24 0), (1, aI x1), (2, aI x2), (3, aI x3), (4, aI x4), (5, aI x5)] [] V) (h : wpX7_lay_29 (Cl UM d) I134  x1 x2 x3 V P) : Gq (Kp (d + 1) mX7_lay UM P) UM cX7_lay 6 RX7 29 [(0, aR 24 0), (1, aI x1), (2, aI x2), (3, aI x3)] [] V := by
  unfold wpX7_lay_29 at h
  refine go_iload_n (q := 2) dX7_lay_29 rfl rfl ?_
  refine go_iconst (v := 2) dX7_lay_30 (by decide) ?_
  refine go_icmp_ne (tgt := 44) dX7_lay_31 (by decide) (fun c_4 => ?_) (fun c_4 => ?_)
  · have h := h.1 c_4
    exact okX7_lay_44   x1 x2 x3  V hk134 h
  · have h := h.2 c_4
    refine go_iload_n (q := 3) dX7_lay_34 rfl rfl ?_
    refine go_cSI (As := [aI x3]) (st := []) ms_X7_isSheet dX7_lay_35 ml_X7_177 (hr_Kp (Nat.le_refl d)) rfl rfl (Nat.le_of_ble_eq_true rfl) h (fun x_2 V_1 h => ?_)
    refine go_if_ne (tgt := 44) dX7_lay_38 (by decide) (fun c_3 => ?_) (fun c_3 => ?_)
    · have h := h.1 c_3
      exact okX7_lay_44   x1 x2 x3  V_1 hk134 h
    · have h := h.2 c_3
      refine go_ldc dX7_lay_41 ct_X7_84 ?_
      exact go_iret rfl dX7_lay_43 h
def wpX7_lay_0 (C : CT) (I134 : Int32 → Int32 → Int32 → Int32 → Int32 → Mem → Prop)  (x1 : Int32) (x2 : Int32) (x3 : Int32) (V : Mem) (Q : Option AV → Mem → Prop) : Prop :=
  (cI C mX7_isSlot [aI x1] V (fun x_2 V_1 => ((x_2 = 0 → Q (some (aI (-1000000001))) V_1) ∧ (¬ x_2 = 0 → (cI C mX7_in [aI x2, aI 0, aI 3] V_1 (fun x_4 V_3 => ((x_4 = 0 → Q (some (aI (-1000000001))) V_3) ∧ (¬ x_4 = 0 → ((¬ x2 = 1 → wpX7_lay_29 C I134  x1 x2 x3 V_3 Q) ∧ (x2 = 1 → (cI C mX7_isRoof [aR 24 0, aI x3] V_3 (fun x_6 V_5 => ((x_6 = 0 → Q (some (aI (-1000000001))) V_5) ∧ (¬ x_6 = 0 → wpX7_lay_29 C I134  x1 x2 x3 V_5 Q))))))))))))))
set_option maxRecDepth 10000 in
theorem okX7_lay_0 {d : Nat} {P : Option AV → Mem → Prop} {I134 : Int32 → Int32 → Int32 → Int32 → Int32 → Mem → Prop}   (x1 : Int32) (x2 : Int32) (x3 : Int32)  (V : Mem) (hk134 : ∀ (x1 : Int32) (x2 : Int32) (x3 : Int32) (x4 : Int32) (x5 : Int32), ∀ (V : Mem), I134 x1 x2 x3 x4 x5 V → Gq (Kp (d + 1) mX7_lay UM P) UM cX7_lay 6 RX7 134 [(0, aR 24 0), (1, aI x1), (2, aI x2), (3, aI x3), (4, aI x4), (5, aI x5)] [] V) (h : wpX7_lay_0 (Cl UM d) I134  x1 x2 x3 V P) : Gq (Kp (d + 1) mX7_lay UM P) UM cX7_lay 6 RX7 0 [(0, aR 24 0), (1, aI x1), (2, aI x2), (3, aI x3)] [] V := by
  unfold wpX7_lay_0 at h
  refine go_iload_n (q := 1) dX7_lay_0 rfl rfl ?_
  refine go_cSI (As := [aI x1]) (st := []) ms_X7_isSlot dX7_lay_1 ml_X7_257 (hr_Kp (Nat.le_refl d)) rfl rfl (Nat.le_of_ble_eq_true rfl) h (fun x_2 V_1 h => ?_)
  refine go_if_eq (tgt := 41) dX7_lay_4 (by decide) (fun c_10 => ?_) (fun c_10 => ?_)
  · have h := h.1 c_10
    refine go_ldc dX7_lay_41 ct_X7_84 ?_
    exact go_iret rfl dX7_lay_43 h
  · have h := h.2 c_10
    refine go_iload_n (q := 2) dX7_lay_7 rfl rfl ?_
    refine go_iconst (v := 0) dX7_lay_8 (by decide) ?_
    refine go_iconst (v := 3) dX7_lay_9 (by decide) ?_
    refine go_cSI (As := [aI x2, aI 0, aI 3]) (st := []) ms_X7_in dX7_lay_10 ml_X7_76 (hr_Kp (Nat.le_refl d)) rfl rfl (Nat.le_of_ble_eq_true rfl) h (fun x_4 V_3 h => ?_)
    refine go_if_eq (tgt := 41) dX7_lay_13 (by decide) (fun c_9 => ?_) (fun c_9 => ?_)
    · have h := h.1 c_9
      refine go_ldc dX7_lay_41 ct_X7_84 ?_
      exact go_iret rfl dX7_lay_43 h
    · have h := h.2 c_9
      refine go_iload_n (q := 2) dX7_lay_16 rfl rfl ?_
      refine go_iconst (v := 1) dX7_lay_17 (by decide) ?_
      refine go_icmp_ne (tgt := 29) dX7_lay_18 (by decide) (fun c_8 => ?_) (fun c_8 => ?_)
      · have h := h.1 c_8
        exact okX7_lay_29   x1 x2 x3  V_3 hk134 h
      · have h := h.2 c_8
        refine go_aload_n (q := 0) dX7_lay_21 rfl rfl ?_
        refine go_iload_n (q := 3) dX7_lay_22 rfl rfl ?_
        refine go_cVI (As := [aI x3]) (st := []) (r := 24) (i := 0) mv_X7_isRoof dX7_lay_23 ml_X7_111 (hr_Kp (Nat.le_refl d)) rfl rfl (mM (by decide) (by decide) rfl) rfl rfl (Nat.le_of_ble_eq_true rfl) h (fun x_6 V_5 h => ?_)
        refine go_if_eq (tgt := 41) dX7_lay_26 (by decide) (fun c_7 => ?_) (fun c_7 => ?_)
        · have h := h.1 c_7
          refine go_ldc dX7_lay_41 ct_X7_84 ?_
          exact go_iret rfl dX7_lay_43 h
        · have h := h.2 c_7
          exact okX7_lay_29   x1 x2 x3  V_5 hk134 h
theorem clX7_lay {d : Nat} {P : Option AV → Mem → Prop} {I134 : Int32 → Int32 → Int32 → Int32 → Int32 → Mem → Prop}   (x1 : Int32) (x2 : Int32) (x3 : Int32) (V : Mem) (hk134 : ∀ (x1 : Int32) (x2 : Int32) (x3 : Int32) (x4 : Int32) (x5 : Int32), ∀ (V : Mem), I134 x1 x2 x3 x4 x5 V → Gq (Kp (d + 1) mX7_lay UM P) UM cX7_lay 6 RX7 134 [(0, aR 24 0), (1, aI x1), (2, aI x2), (3, aI x3), (4, aI x4), (5, aI x5)] [] V) (h : wpX7_lay_0 (Cl UM d) I134  x1 x2 x3 V P) : Cl UM (d + 1) mX7_lay [aR 24 0, aI x1, aI x2, aI x3] V P :=
  cl_of [(0, aR 24 0), (1, aI x1), (2, aI x2), (3, aI x3)] (by decide) (fun _ => Nat.le_of_ble_eq_true rfl) (fun _ => rfl) (okX7_lay_0   x1 x2 x3 V hk134 h)
theorem dX7_ask_0 : decode cX7_ask 0 = .ok (.iload_n 1, 1) := by decide +kernel
theorem dX7_ask_1 : decode cX7_ask 1 = .ok (.invokestatic 257, 3) := by decide +kernel
theorem dX7_ask_4 : decode cX7_ask 4 = .ok (.ifCond .eq 12, 3) := by decide +kernel
theorem dX7_ask_7 : decode cX7_ask 7 = .ok (.iload_n 2, 1) := by decide +kernel
theorem dX7_ask_8 : decode cX7_ask 8 = .ok (.iconst 0, 1) := by decide +kernel
theorem dX7_ask_9 : decode cX7_ask 9 = .ok (.iconst 5, 1) := by decide +kernel
theorem dX7_ask_10 : decode cX7_ask 10 = .ok (.invokestatic 76, 3) := by decide +kernel
theorem dX7_ask_13 : decode cX7_ask 13 = .ok (.ifCond .ne 6, 3) := by decide +kernel
theorem dX7_ask_16 : decode cX7_ask 16 = .ok (.ldc 84, 2) := by decide +kernel
theorem dX7_ask_18 : decode cX7_ask 18 = .ok (.ireturn, 1) := by decide +kernel
theorem dX7_ask_19 : decode cX7_ask 19 = .ok (.aload_n 0, 1) := by decide +kernel
theorem dX7_ask_20 : decode cX7_ask 20 = .ok (.getfield 57, 3) := by decide +kernel
theorem dX7_ask_23 : decode cX7_ask 23 = .ok (.iload_n 1, 1) := by decide +kernel
theorem dX7_ask_24 : decode cX7_ask 24 = .ok (.iaload, 1) := by decide +kernel
theorem dX7_ask_25 : decode cX7_ask 25 = .ok (.ifCond .ne 6, 3) := by decide +kernel
theorem dX7_ask_28 : decode cX7_ask 28 = .ok (.ldc 180, 2) := by decide +kernel
theorem dX7_ask_30 : decode cX7_ask 30 = .ok (.ireturn, 1) := by decide +kernel
theorem dX7_ask_31 : decode cX7_ask 31 = .ok (.aload_n 0, 1) := by decide +kernel
theorem dX7_ask_32 : decode cX7_ask 32 = .ok (.getfield 57, 3) := by decide +kernel
theorem dX7_ask_35 : decode cX7_ask 35 = .ok (.iload_n 1, 1) := by decide +kernel
theorem dX7_ask_36 : decode cX7_ask 36 = .ok (.iaload, 1) := by decide +kernel
theorem dX7_ask_37 : decode cX7_ask 37 = .ok (.iconst 1, 1) := by decide +kernel
theorem dX7_ask_38 : decode cX7_ask 38 = .ok (.if_icmp .ne 25, 3) := by decide +kernel
theorem dX7_ask_41 : decode cX7_ask 41 = .ok (.aload_n 0, 1) := by decide +kernel
theorem dX7_ask_42 : decode cX7_ask 42 = .ok (.getfield 60, 3) := by decide +kernel
theorem dX7_ask_45 : decode cX7_ask 45 = .ok (.iload_n 1, 1) := by decide +kernel
theorem dX7_ask_46 : decode cX7_ask 46 = .ok (.iaload, 1) := by decide +kernel
theorem dX7_ask_47 : decode cX7_ask 47 = .ok (.iload_n 2, 1) := by decide +kernel
theorem dX7_ask_48 : decode cX7_ask 48 = .ok (.invokestatic 127, 3) := by decide +kernel
theorem dX7_ask_51 : decode cX7_ask 51 = .ok (.ifCond .eq 12, 3) := by decide +kernel
theorem dX7_ask_54 : decode cX7_ask 54 = .ok (.aload_n 0, 1) := by decide +kernel
theorem dX7_ask_55 : decode cX7_ask 55 = .ok (.getfield 63, 3) := by decide +kernel
theorem dX7_ask_58 : decode cX7_ask 58 = .ok (.iload_n 1, 1) := by decide +kernel
theorem dX7_ask_59 : decode cX7_ask 59 = .ok (.iaload, 1) := by decide +kernel
theorem dX7_ask_60 : decode cX7_ask 60 = .ok (.goto 5, 3) := by decide +kernel
theorem dX7_ask_63 : decode cX7_ask 63 = .ok (.ldc 131, 2) := by decide +kernel
theorem dX7_ask_65 : decode cX7_ask 65 = .ok (.ireturn, 1) := by decide +kernel
def wpX7_ask_0 (C : CT)   (x1 : Int32) (x2 : Int32) (V : Mem) (Q : Option AV → Mem → Prop) : Prop :=
  (cI C mX7_isSlot [aI x1] V (fun x_2 V_1 => ((x_2 = 0 → Q (some (aI (-1000000001))) V_1) ∧ (¬ x_2 = 0 → (cI C mX7_in [aI x2, aI 0, aI 5] V_1 (fun x_4 V_3 => ((¬ x_4 = 0 → (∃ j_5 : Nat, x1 = nI j_5 ∧ j_5 < 5 ∧ ((¬ (V_3 40 0 j_5) = 0 → ((¬ (V_3 40 0 j_5) = 1 → Q (some (aI (-1000000012))) V_3) ∧ ((V_3 40 0 j_5) = 1 → (cI C mX7_isUnder [aI (V_3 41 0 j_5), aI x2] V_3 (fun x_7 V_6 => ((x_7 = 0 → Q (some (aI (-1000000012))) V_6) ∧ (¬ x_7 = 0 → Q (some (aI (V_6 42 0 j_5))) V_6))))))) ∧ ((V_3 40 0 j_5) = 0 → Q (some (aI (-1000000011))) V_3)))) ∧ (x_4 = 0 → Q (some (aI (-1000000001))) V_3))))))))
set_option maxRecDepth 10000 in
theorem okX7_ask_0 {d : Nat} {P : Option AV → Mem → Prop}    (x1 : Int32) (x2 : Int32)  (V : Mem)  (h : wpX7_ask_0 (Cl UM d)   x1 x2 V P) : Gq (Kp (d + 1) mX7_ask UM P) UM cX7_ask 3 RX7 0 [(0, aR 24 0), (1, aI x1), (2, aI x2)] [] V := by
  unfold wpX7_ask_0 at h
  refine go_iload_n (q := 1) dX7_ask_0 rfl rfl ?_
  refine go_cSI (As := [aI x1]) (st := []) ms_X7_isSlot dX7_ask_1 ml_X7_257 (hr_Kp (Nat.le_refl d)) rfl rfl (Nat.le_of_ble_eq_true rfl) h (fun x_2 V_1 h => ?_)
  refine go_if_eq (tgt := 16) dX7_ask_4 (by decide) (fun c_12 => ?_) (fun c_12 => ?_)
  · have h := h.1 c_12
    refine go_ldc dX7_ask_16 ct_X7_84 ?_
    exact go_iret rfl dX7_ask_18 h
  · have h := h.2 c_12
    refine go_iload_n (q := 2) dX7_ask_7 rfl rfl ?_
    refine go_iconst (v := 0) dX7_ask_8 (by decide) ?_
    refine go_iconst (v := 5) dX7_ask_9 (by decide) ?_
    refine go_cSI (As := [aI x2, aI 0, aI 5]) (st := []) ms_X7_in dX7_ask_10 ml_X7_76 (hr_Kp (Nat.le_refl d)) rfl rfl (Nat.le_of_ble_eq_true rfl) h (fun x_4 V_3 h => ?_)
    refine go_if_ne (tgt := 19) dX7_ask_13 (by decide) (fun c_11 => ?_) (fun c_11 => ?_)
    · have h := h.1 c_11
      refine go_aload_n (q := 0) dX7_ask_19 rfl rfl ?_
      refine go_getr fg_X7_57 dX7_ask_20 (mM (by decide) (by decide) rfl) ?_
      refine go_iload_n (q := 1) dX7_ask_23 rfl rfl ?_
      obtain ⟨j_5, e_j_5, l_j_5, h⟩ := h
      refine go_iald (r := 40) (n := 5) (j := j_5) rfl (by decide) dX7_ask_24 (mM (by decide) (by decide) rfl) e_j_5 l_j_5 ?_
      refine go_if_ne (tgt := 31) dX7_ask_25 (by decide) (fun c_10 => ?_) (fun c_10 => ?_)
      · have h := h.1 c_10
        refine go_aload_n (q := 0) dX7_ask_31 rfl rfl ?_
        refine go_getr fg_X7_57 dX7_ask_32 (mM (by decide) (by decide) rfl) ?_
        refine go_iload_n (q := 1) dX7_ask_35 rfl rfl ?_
        refine go_iald (r := 40) (n := 5) (j := j_5) rfl (by decide) dX7_ask_36 (mM (by decide) (by decide) rfl) e_j_5 (by omega) ?_
        refine go_iconst (v := 1) dX7_ask_37 (by decide) ?_
        refine go_icmp_ne (tgt := 63) dX7_ask_38 (by decide) (fun c_9 => ?_) (fun c_9 => ?_)
        · have h := h.1 c_9
          refine go_ldc dX7_ask_63 ct_X7_131 ?_
          exact go_iret rfl dX7_ask_65 h
        · have h := h.2 c_9
          refine go_aload_n (q := 0) dX7_ask_41 rfl rfl ?_
          refine go_getr fg_X7_60 dX7_ask_42 (mM (by decide) (by decide) rfl) ?_
          refine go_iload_n (q := 1) dX7_ask_45 rfl rfl ?_
          refine go_iald (r := 41) (n := 5) (j := j_5) rfl (by decide) dX7_ask_46 (mM (by decide) (by decide) rfl) e_j_5 (by omega) ?_
          refine go_iload_n (q := 2) dX7_ask_47 rfl rfl ?_
          refine go_cSI (As := [aI (V_3 41 0 j_5), aI x2]) (st := []) ms_X7_isUnder dX7_ask_48 ml_X7_127 (hr_Kp (Nat.le_refl d)) rfl rfl (Nat.le_of_ble_eq_true rfl) h (fun x_7 V_6 h => ?_)
          refine go_if_eq (tgt := 63) dX7_ask_51 (by decide) (fun c_8 => ?_) (fun c_8 => ?_)
          · have h := h.1 c_8
            refine go_ldc dX7_ask_63 ct_X7_131 ?_
            exact go_iret rfl dX7_ask_65 h
          · have h := h.2 c_8
            refine go_aload_n (q := 0) dX7_ask_54 rfl rfl ?_
            refine go_getr fg_X7_63 dX7_ask_55 (mM (by decide) (by decide) rfl) ?_
            refine go_iload_n (q := 1) dX7_ask_58 rfl rfl ?_
            refine go_iald (r := 42) (n := 5) (j := j_5) rfl (by decide) dX7_ask_59 (mM (by decide) (by decide) rfl) e_j_5 (by omega) ?_
            refine go_goto (tgt := 65) dX7_ask_60 (by decide) ?_
            exact go_iret rfl dX7_ask_65 h
      · have h := h.2 c_10
        refine go_ldc dX7_ask_28 ct_X7_180 ?_
        exact go_iret rfl dX7_ask_30 h
    · have h := h.2 c_11
      refine go_ldc dX7_ask_16 ct_X7_84 ?_
      exact go_iret rfl dX7_ask_18 h
theorem clX7_ask {d : Nat} {P : Option AV → Mem → Prop}    (x1 : Int32) (x2 : Int32) (V : Mem)  (h : wpX7_ask_0 (Cl UM d)   x1 x2 V P) : Cl UM (d + 1) mX7_ask [aR 24 0, aI x1, aI x2] V P :=
  cl_of [(0, aR 24 0), (1, aI x1), (2, aI x2)] (by decide) (fun _ => Nat.le_of_ble_eq_true rfl) (fun _ => rfl) (okX7_ask_0   x1 x2 V  h)
theorem dX7_item_0 : decode cX7_item 0 = .ok (.iload_n 1, 1) := by decide +kernel
theorem dX7_item_1 : decode cX7_item 1 = .ok (.invokestatic 257, 3) := by decide +kernel
theorem dX7_item_4 : decode cX7_item 4 = .ok (.ifCond .ne 6, 3) := by decide +kernel
theorem dX7_item_7 : decode cX7_item 7 = .ok (.ldc 84, 2) := by decide +kernel
theorem dX7_item_9 : decode cX7_item 9 = .ok (.ireturn, 1) := by decide +kernel
theorem dX7_item_10 : decode cX7_item 10 = .ok (.aload_n 0, 1) := by decide +kernel
theorem dX7_item_11 : decode cX7_item 11 = .ok (.getfield 57, 3) := by decide +kernel
theorem dX7_item_14 : decode cX7_item 14 = .ok (.iload_n 1, 1) := by decide +kernel
theorem dX7_item_15 : decode cX7_item 15 = .ok (.iaload, 1) := by decide +kernel
theorem dX7_item_16 : decode cX7_item 16 = .ok (.ifCond .ne 6, 3) := by decide +kernel
theorem dX7_item_19 : decode cX7_item 19 = .ok (.ldc 180, 2) := by decide +kernel
theorem dX7_item_21 : decode cX7_item 21 = .ok (.ireturn, 1) := by decide +kernel
theorem dX7_item_22 : decode cX7_item 22 = .ok (.aload_n 0, 1) := by decide +kernel
theorem dX7_item_23 : decode cX7_item 23 = .ok (.getfield 57, 3) := by decide +kernel
theorem dX7_item_26 : decode cX7_item 26 = .ok (.iload_n 1, 1) := by decide +kernel
theorem dX7_item_27 : decode cX7_item 27 = .ok (.iaload, 1) := by decide +kernel
theorem dX7_item_28 : decode cX7_item 28 = .ok (.iconst 2, 1) := by decide +kernel
theorem dX7_item_29 : decode cX7_item 29 = .ok (.if_icmp .eq 6, 3) := by decide +kernel
theorem dX7_item_32 : decode cX7_item 32 = .ok (.ldc 131, 2) := by decide +kernel
theorem dX7_item_34 : decode cX7_item 34 = .ok (.ireturn, 1) := by decide +kernel
theorem dX7_item_35 : decode cX7_item 35 = .ok (.iload_n 2, 1) := by decide +kernel
theorem dX7_item_36 : decode cX7_item 36 = .ok (.iconst 0, 1) := by decide +kernel
theorem dX7_item_37 : decode cX7_item 37 = .ok (.aload_n 0, 1) := by decide +kernel
theorem dX7_item_38 : decode cX7_item 38 = .ok (.getfield 60, 3) := by decide +kernel
theorem dX7_item_41 : decode cX7_item 41 = .ok (.iload_n 1, 1) := by decide +kernel
theorem dX7_item_42 : decode cX7_item 42 = .ok (.iaload, 1) := by decide +kernel
theorem dX7_item_43 : decode cX7_item 43 = .ok (.iconst 1, 1) := by decide +kernel
theorem dX7_item_44 : decode cX7_item 44 = .ok (.isub, 1) := by decide +kernel
theorem dX7_item_45 : decode cX7_item 45 = .ok (.invokestatic 76, 3) := by decide +kernel
theorem dX7_item_48 : decode cX7_item 48 = .ok (.ifCond .ne 6, 3) := by decide +kernel
theorem dX7_item_51 : decode cX7_item 51 = .ok (.ldc 255, 2) := by decide +kernel
theorem dX7_item_53 : decode cX7_item 53 = .ok (.ireturn, 1) := by decide +kernel
theorem dX7_item_54 : decode cX7_item 54 = .ok (.aload_n 0, 1) := by decide +kernel
theorem dX7_item_55 : decode cX7_item 55 = .ok (.getfield 66, 3) := by decide +kernel
theorem dX7_item_58 : decode cX7_item 58 = .ok (.bipush 24, 2) := by decide +kernel
theorem dX7_item_60 : decode cX7_item 60 = .ok (.iload_n 1, 1) := by decide +kernel
theorem dX7_item_61 : decode cX7_item 61 = .ok (.imul, 1) := by decide +kernel
theorem dX7_item_62 : decode cX7_item 62 = .ok (.iload_n 2, 1) := by decide +kernel
theorem dX7_item_63 : decode cX7_item 63 = .ok (.iadd, 1) := by decide +kernel
theorem dX7_item_64 : decode cX7_item 64 = .ok (.iaload, 1) := by decide +kernel
theorem dX7_item_65 : decode cX7_item 65 = .ok (.istore_n 3, 1) := by decide +kernel
theorem dX7_item_66 : decode cX7_item 66 = .ok (.iload_n 3, 1) := by decide +kernel
theorem dX7_item_67 : decode cX7_item 67 = .ok (.ldc 75, 2) := by decide +kernel
theorem dX7_item_69 : decode cX7_item 69 = .ok (.if_icmp .ne 8, 3) := by decide +kernel
theorem dX7_item_72 : decode cX7_item 72 = .ok (.ldc 131, 2) := by decide +kernel
theorem dX7_item_74 : decode cX7_item 74 = .ok (.goto 4, 3) := by decide +kernel
theorem dX7_item_77 : decode cX7_item 77 = .ok (.iload_n 3, 1) := by decide +kernel
theorem dX7_item_78 : decode cX7_item 78 = .ok (.ireturn, 1) := by decide +kernel
def wpX7_item_0 (C : CT)   (x1 : Int32) (x2 : Int32) (V : Mem) (Q : Option AV → Mem → Prop) : Prop :=
  (cI C mX7_isSlot [aI x1] V (fun x_2 V_1 => ((¬ x_2 = 0 → (∃ j_3 : Nat, x1 = nI j_3 ∧ j_3 < 5 ∧ ((¬ (V_1 40 0 j_3) = 0 → (((V_1 40 0 j_3) = 2 → (cI C mX7_in [aI x2, aI 0, aI ((V_1 41 0 j_3) - 1)] V_1 (fun x_5 V_4 => ((¬ x_5 = 0 → (∃ j_6 : Nat, ((24 * x1) + x2) = nI j_6 ∧ j_6 < 120 ∧ (∀ z_7 : Int32, z_7 = (V_4 43 0 j_6) → ((¬ z_7 = (-1000000005) → Q (some (aI z_7)) V_4) ∧ (z_7 = (-1000000005) → Q (some (aI (-1000000012))) V_4))))) ∧ (x_5 = 0 → Q (some (aI (-1000000013))) V_4))))) ∧ (¬ (V_1 40 0 j_3) = 2 → Q (some (aI (-1000000012))) V_1))) ∧ ((V_1 40 0 j_3) = 0 → Q (some (aI (-1000000011))) V_1)))) ∧ (x_2 = 0 → Q (some (aI (-1000000001))) V_1))))
set_option maxRecDepth 10000 in
theorem okX7_item_0 {d : Nat} {P : Option AV → Mem → Prop}    (x1 : Int32) (x2 : Int32)  (V : Mem)  (h : wpX7_item_0 (Cl UM d)   x1 x2 V P) : Gq (Kp (d + 1) mX7_item UM P) UM cX7_item 4 RX7 0 [(0, aR 24 0), (1, aI x1), (2, aI x2)] [] V := by
  unfold wpX7_item_0 at h
  refine go_iload_n (q := 1) dX7_item_0 rfl rfl ?_
  refine go_cSI (As := [aI x1]) (st := []) ms_X7_isSlot dX7_item_1 ml_X7_257 (hr_Kp (Nat.le_refl d)) rfl rfl (Nat.le_of_ble_eq_true rfl) h (fun x_2 V_1 h => ?_)
  refine go_if_ne (tgt := 10) dX7_item_4 (by decide) (fun c_12 => ?_) (fun c_12 => ?_)
  · have h := h.1 c_12
    refine go_aload_n (q := 0) dX7_item_10 rfl rfl ?_
    refine go_getr fg_X7_57 dX7_item_11 (mM (by decide) (by decide) rfl) ?_
    refine go_iload_n (q := 1) dX7_item_14 rfl rfl ?_
    obtain ⟨j_3, e_j_3, l_j_3, h⟩ := h
    refine go_iald (r := 40) (n := 5) (j := j_3) rfl (by decide) dX7_item_15 (mM (by decide) (by decide) rfl) e_j_3 l_j_3 ?_
    refine go_if_ne (tgt := 22) dX7_item_16 (by decide) (fun c_11 => ?_) (fun c_11 => ?_)
    · have h := h.1 c_11
      refine go_aload_n (q := 0) dX7_item_22 rfl rfl ?_
      refine go_getr fg_X7_57 dX7_item_23 (mM (by decide) (by decide) rfl) ?_
      refine go_iload_n (q := 1) dX7_item_26 rfl rfl ?_
      refine go_iald (r := 40) (n := 5) (j := j_3) rfl (by decide) dX7_item_27 (mM (by decide) (by decide) rfl) e_j_3 (by omega) ?_
      refine go_iconst (v := 2) dX7_item_28 (by decide) ?_
      refine go_icmp_eq (tgt := 35) dX7_item_29 (by decide) (fun c_10 => ?_) (fun c_10 => ?_)
      · have h := h.1 c_10
        refine go_iload_n (q := 2) dX7_item_35 rfl rfl ?_
        refine go_iconst (v := 0) dX7_item_36 (by decide) ?_
        refine go_aload_n (q := 0) dX7_item_37 rfl rfl ?_
        refine go_getr fg_X7_60 dX7_item_38 (mM (by decide) (by decide) rfl) ?_
        refine go_iload_n (q := 1) dX7_item_41 rfl rfl ?_
        refine go_iald (r := 41) (n := 5) (j := j_3) rfl (by decide) dX7_item_42 (mM (by decide) (by decide) rfl) e_j_3 (by omega) ?_
        refine go_iconst (v := 1) dX7_item_43 (by decide) ?_
        refine go_isub dX7_item_44 ?_
        refine go_cSI (As := [aI x2, aI 0, aI ((V_1 41 0 j_3) - 1)]) (st := []) ms_X7_in dX7_item_45 ml_X7_76 (hr_Kp (Nat.le_refl d)) rfl rfl (Nat.le_of_ble_eq_true rfl) h (fun x_5 V_4 h => ?_)
        refine go_if_ne (tgt := 54) dX7_item_48 (by decide) (fun c_9 => ?_) (fun c_9 => ?_)
        · have h := h.1 c_9
          refine go_aload_n (q := 0) dX7_item_54 rfl rfl ?_
          refine go_getr fg_X7_66 dX7_item_55 (mM (by decide) (by decide) rfl) ?_
          refine go_bipush (v := 24) dX7_item_58 (by decide) ?_
          refine go_iload_n (q := 1) dX7_item_60 rfl rfl ?_
          refine go_imul dX7_item_61 ?_
          refine go_iload_n (q := 2) dX7_item_62 rfl rfl ?_
          refine go_iadd dX7_item_63 ?_
          obtain ⟨j_6, e_j_6, l_j_6, h⟩ := h
          refine go_iald (r := 43) (n := 120) (j := j_6) rfl (by decide) dX7_item_64 (mM (by decide) (by decide) rfl) e_j_6 l_j_6 ?_
          refine nmI (fun z_7 e_z_7 => ?_)
          have h := h z_7 e_z_7
          refine go_istore_n (al1 := [(3, aI z_7), (0, aR 24 0), (1, aI x1), (2, aI x2)]) dX7_item_65 rfl (by decide) rfl ?_
          refine go_iload_n (q := 0) dX7_item_66 rfl rfl ?_
          refine go_ldc dX7_item_67 ct_X7_75 ?_
          refine go_icmp_ne (tgt := 77) dX7_item_69 (by decide) (fun c_8 => ?_) (fun c_8 => ?_)
          · have h := h.1 c_8
            refine go_iload_n (q := 0) dX7_item_77 rfl rfl ?_
            exact go_iret rfl dX7_item_78 h
          · have h := h.2 c_8
            refine go_ldc dX7_item_72 ct_X7_131 ?_
            refine go_goto (tgt := 78) dX7_item_74 (by decide) ?_
            exact go_iret rfl dX7_item_78 h
        · have h := h.2 c_9
          refine go_ldc dX7_item_51 ct_X7_255 ?_
          exact go_iret rfl dX7_item_53 h
      · have h := h.2 c_10
        refine go_ldc dX7_item_32 ct_X7_131 ?_
        exact go_iret rfl dX7_item_34 h
    · have h := h.2 c_11
      refine go_ldc dX7_item_19 ct_X7_180 ?_
      exact go_iret rfl dX7_item_21 h
  · have h := h.2 c_12
    refine go_ldc dX7_item_7 ct_X7_84 ?_
    exact go_iret rfl dX7_item_9 h
theorem clX7_item {d : Nat} {P : Option AV → Mem → Prop}    (x1 : Int32) (x2 : Int32) (V : Mem)  (h : wpX7_item_0 (Cl UM d)   x1 x2 V P) : Cl UM (d + 1) mX7_item [aR 24 0, aI x1, aI x2] V P :=
  cl_of [(0, aR 24 0), (1, aI x1), (2, aI x2)] (by decide) (fun _ => Nat.le_of_ble_eq_true rfl) (fun _ => rfl) (okX7_item_0   x1 x2 V  h)
theorem dX7_rest_0 : decode cX7_rest 0 = .ok (.iload_n 1, 1) := by decide +kernel
theorem dX7_rest_1 : decode cX7_rest 1 = .ok (.invokestatic 257, 3) := by decide +kernel
theorem dX7_rest_4 : decode cX7_rest 4 = .ok (.ifCond .ne 6, 3) := by decide +kernel
theorem dX7_rest_7 : decode cX7_rest 7 = .ok (.ldc 84, 2) := by decide +kernel
theorem dX7_rest_9 : decode cX7_rest 9 = .ok (.ireturn, 1) := by decide +kernel
theorem dX7_rest_10 : decode cX7_rest 10 = .ok (.aload_n 0, 1) := by decide +kernel
theorem dX7_rest_11 : decode cX7_rest 11 = .ok (.getfield 57, 3) := by decide +kernel
theorem dX7_rest_14 : decode cX7_rest 14 = .ok (.iload_n 1, 1) := by decide +kernel
theorem dX7_rest_15 : decode cX7_rest 15 = .ok (.iaload, 1) := by decide +kernel
theorem dX7_rest_16 : decode cX7_rest 16 = .ok (.ifCond .ne 6, 3) := by decide +kernel
theorem dX7_rest_19 : decode cX7_rest 19 = .ok (.ldc 180, 2) := by decide +kernel
theorem dX7_rest_21 : decode cX7_rest 21 = .ok (.ireturn, 1) := by decide +kernel
theorem dX7_rest_22 : decode cX7_rest 22 = .ok (.aload_n 0, 1) := by decide +kernel
theorem dX7_rest_23 : decode cX7_rest 23 = .ok (.getfield 57, 3) := by decide +kernel
theorem dX7_rest_26 : decode cX7_rest 26 = .ok (.iload_n 1, 1) := by decide +kernel
theorem dX7_rest_27 : decode cX7_rest 27 = .ok (.iaload, 1) := by decide +kernel
theorem dX7_rest_28 : decode cX7_rest 28 = .ok (.iconst 3, 1) := by decide +kernel
theorem dX7_rest_29 : decode cX7_rest 29 = .ok (.if_icmp .eq 6, 3) := by decide +kernel
theorem dX7_rest_32 : decode cX7_rest 32 = .ok (.ldc 131, 2) := by decide +kernel
theorem dX7_rest_34 : decode cX7_rest 34 = .ok (.ireturn, 1) := by decide +kernel
theorem dX7_rest_35 : decode cX7_rest 35 = .ok (.iload_n 2, 1) := by decide +kernel
theorem dX7_rest_36 : decode cX7_rest 36 = .ok (.ifCond .ne 9, 3) := by decide +kernel
theorem dX7_rest_39 : decode cX7_rest 39 = .ok (.ldc_w 260, 3) := by decide +kernel
theorem dX7_rest_42 : decode cX7_rest 42 = .ok (.goto 20, 3) := by decide +kernel
theorem dX7_rest_45 : decode cX7_rest 45 = .ok (.iload_n 2, 1) := by decide +kernel
theorem dX7_rest_46 : decode cX7_rest 46 = .ok (.iconst (-1), 1) := by decide +kernel
theorem dX7_rest_47 : decode cX7_rest 47 = .ok (.if_icmp .ne 7, 3) := by decide +kernel
theorem dX7_rest_50 : decode cX7_rest 50 = .ok (.iconst 0, 1) := by decide +kernel
theorem dX7_rest_51 : decode cX7_rest 51 = .ok (.goto 11, 3) := by decide +kernel
theorem dX7_rest_54 : decode cX7_rest 54 = .ok (.aload_n 0, 1) := by decide +kernel
theorem dX7_rest_55 : decode cX7_rest 55 = .ok (.getfield 60, 3) := by decide +kernel
theorem dX7_rest_58 : decode cX7_rest 58 = .ok (.iload_n 1, 1) := by decide +kernel
theorem dX7_rest_59 : decode cX7_rest 59 = .ok (.iaload, 1) := by decide +kernel
theorem dX7_rest_60 : decode cX7_rest 60 = .ok (.iload_n 2, 1) := by decide +kernel
theorem dX7_rest_61 : decode cX7_rest 61 = .ok (.irem, 1) := by decide +kernel
theorem dX7_rest_62 : decode cX7_rest 62 = .ok (.ireturn, 1) := by decide +kernel
def wpX7_rest_0 (C : CT)   (x1 : Int32) (x2 : Int32) (V : Mem) (Q : Option AV → Mem → Prop) : Prop :=
  (cI C mX7_isSlot [aI x1] V (fun x_2 V_1 => ((¬ x_2 = 0 → (∃ j_3 : Nat, x1 = nI j_3 ∧ j_3 < 5 ∧ ((¬ (V_1 40 0 j_3) = 0 → (((V_1 40 0 j_3) = 3 → ((¬ x2 = 0 → ((¬ x2 = (-1) → (¬ x2 = 0 ∧ (∀ z_5 : Int32, z_5 = ((V_1 41 0 j_3) - (V_1 41 0 j_3) / x2 * x2) → Q (some (aI z_5)) V_1))) ∧ (x2 = (-1) → Q (some (aI 0)) V_1))) ∧ (x2 = 0 → Q (some (aI (-1000000002))) V_1))) ∧ (¬ (V_1 40 0 j_3) = 3 → Q (some (aI (-1000000012))) V_1))) ∧ ((V_1 40 0 j_3) = 0 → Q (some (aI (-1000000011))) V_1)))) ∧ (x_2 = 0 → Q (some (aI (-1000000001))) V_1))))
set_option maxRecDepth 10000 in
theorem okX7_rest_0 {d : Nat} {P : Option AV → Mem → Prop}    (x1 : Int32) (x2 : Int32)  (V : Mem)  (h : wpX7_rest_0 (Cl UM d)   x1 x2 V P) : Gq (Kp (d + 1) mX7_rest UM P) UM cX7_rest 3 RX7 0 [(0, aR 24 0), (1, aI x1), (2, aI x2)] [] V := by
  unfold wpX7_rest_0 at h
  refine go_iload_n (q := 1) dX7_rest_0 rfl rfl ?_
  refine go_cSI (As := [aI x1]) (st := []) ms_X7_isSlot dX7_rest_1 ml_X7_257 (hr_Kp (Nat.le_refl d)) rfl rfl (Nat.le_of_ble_eq_true rfl) h (fun x_2 V_1 h => ?_)
  refine go_if_ne (tgt := 10) dX7_rest_4 (by decide) (fun c_10 => ?_) (fun c_10 => ?_)
  · have h := h.1 c_10
    refine go_aload_n (q := 0) dX7_rest_10 rfl rfl ?_
    refine go_getr fg_X7_57 dX7_rest_11 (mM (by decide) (by decide) rfl) ?_
    refine go_iload_n (q := 1) dX7_rest_14 rfl rfl ?_
    obtain ⟨j_3, e_j_3, l_j_3, h⟩ := h
    refine go_iald (r := 40) (n := 5) (j := j_3) rfl (by decide) dX7_rest_15 (mM (by decide) (by decide) rfl) e_j_3 l_j_3 ?_
    refine go_if_ne (tgt := 22) dX7_rest_16 (by decide) (fun c_9 => ?_) (fun c_9 => ?_)
    · have h := h.1 c_9
      refine go_aload_n (q := 0) dX7_rest_22 rfl rfl ?_
      refine go_getr fg_X7_57 dX7_rest_23 (mM (by decide) (by decide) rfl) ?_
      refine go_iload_n (q := 1) dX7_rest_26 rfl rfl ?_
      refine go_iald (r := 40) (n := 5) (j := j_3) rfl (by decide) dX7_rest_27 (mM (by decide) (by decide) rfl) e_j_3 (by omega) ?_
      refine go_iconst (v := 3) dX7_rest_28 (by decide) ?_
      refine go_icmp_eq (tgt := 35) dX7_rest_29 (by decide) (fun c_8 => ?_) (fun c_8 => ?_)
      · have h := h.1 c_8
        refine go_iload_n (q := 2) dX7_rest_35 rfl rfl ?_
        refine go_if_ne (tgt := 45) dX7_rest_36 (by decide) (fun c_7 => ?_) (fun c_7 => ?_)
        · have h := h.1 c_7
          refine go_iload_n (q := 2) dX7_rest_45 rfl rfl ?_
          refine go_iconst (v := (-1)) dX7_rest_46 (by decide) ?_
          refine go_icmp_ne (tgt := 54) dX7_rest_47 (by decide) (fun c_6 => ?_) (fun c_6 => ?_)
          · have h := h.1 c_6
            refine go_aload_n (q := 0) dX7_rest_54 rfl rfl ?_
            refine go_getr fg_X7_60 dX7_rest_55 (mM (by decide) (by decide) rfl) ?_
            refine go_iload_n (q := 1) dX7_rest_58 rfl rfl ?_
            refine go_iald (r := 41) (n := 5) (j := j_3) rfl (by decide) dX7_rest_59 (mM (by decide) (by decide) rfl) e_j_3 (by omega) ?_
            refine go_iload_n (q := 2) dX7_rest_60 rfl rfl ?_
            obtain ⟨c_4, h⟩ := h
            refine go_irem dX7_rest_61 c_4 ?_
            refine nmI (fun z_5 e_z_5 => ?_)
            have h := h z_5 e_z_5
            exact go_iret rfl dX7_rest_62 h
          · have h := h.2 c_6
            refine go_iconst (v := 0) dX7_rest_50 (by decide) ?_
            refine go_goto (tgt := 62) dX7_rest_51 (by decide) ?_
            exact go_iret rfl dX7_rest_62 h
        · have h := h.2 c_7
          refine go_ldcw dX7_rest_39 ct_X7_260 ?_
          refine go_goto (tgt := 62) dX7_rest_42 (by decide) ?_
          exact go_iret rfl dX7_rest_62 h
      · have h := h.2 c_8
        refine go_ldc dX7_rest_32 ct_X7_131 ?_
        exact go_iret rfl dX7_rest_34 h
    · have h := h.2 c_9
      refine go_ldc dX7_rest_19 ct_X7_180 ?_
      exact go_iret rfl dX7_rest_21 h
  · have h := h.2 c_10
    refine go_ldc dX7_rest_7 ct_X7_84 ?_
    exact go_iret rfl dX7_rest_9 h
theorem clX7_rest {d : Nat} {P : Option AV → Mem → Prop}    (x1 : Int32) (x2 : Int32) (V : Mem)  (h : wpX7_rest_0 (Cl UM d)   x1 x2 V P) : Cl UM (d + 1) mX7_rest [aR 24 0, aI x1, aI x2] V P :=
  cl_of [(0, aR 24 0), (1, aI x1), (2, aI x2)] (by decide) (fun _ => Nat.le_of_ble_eq_true rfl) (fun _ => rfl) (okX7_rest_0   x1 x2 V  h)
theorem dX7_tell_0 : decode cX7_tell 0 = .ok (.aload_n 0, 1) := by decide +kernel
theorem dX7_tell_1 : decode cX7_tell 1 = .ok (.getfield 261, 3) := by decide +kernel
theorem dX7_tell_4 : decode cX7_tell 4 = .ok (.bipush 60, 2) := by decide +kernel
theorem dX7_tell_6 : decode cX7_tell 6 = .ok (.if_icmp .ne 6, 3) := by decide +kernel
theorem dX7_tell_9 : decode cX7_tell 9 = .ok (.ldc 85, 2) := by decide +kernel
theorem dX7_tell_11 : decode cX7_tell 11 = .ok (.ireturn, 1) := by decide +kernel
theorem dX7_tell_12 : decode cX7_tell 12 = .ok (.aload_n 0, 1) := by decide +kernel
theorem dX7_tell_13 : decode cX7_tell 13 = .ok (.getfield 72, 3) := by decide +kernel
theorem dX7_tell_16 : decode cX7_tell 16 = .ok (.aload_n 0, 1) := by decide +kernel
theorem dX7_tell_17 : decode cX7_tell 17 = .ok (.getfield 261, 3) := by decide +kernel
theorem dX7_tell_20 : decode cX7_tell 20 = .ok (.iload_n 1, 1) := by decide +kernel
theorem dX7_tell_21 : decode cX7_tell 21 = .ok (.iastore, 1) := by decide +kernel
theorem dX7_tell_22 : decode cX7_tell 22 = .ok (.aload_n 0, 1) := by decide +kernel
theorem dX7_tell_23 : decode cX7_tell 23 = .ok (.dup, 1) := by decide +kernel
theorem dX7_tell_24 : decode cX7_tell 24 = .ok (.getfield 261, 3) := by decide +kernel
theorem dX7_tell_27 : decode cX7_tell 27 = .ok (.iconst 1, 1) := by decide +kernel
theorem dX7_tell_28 : decode cX7_tell 28 = .ok (.iadd, 1) := by decide +kernel
theorem dX7_tell_29 : decode cX7_tell 29 = .ok (.putfield 261, 3) := by decide +kernel
theorem dX7_tell_32 : decode cX7_tell 32 = .ok (.aload_n 0, 1) := by decide +kernel
theorem dX7_tell_33 : decode cX7_tell 33 = .ok (.getfield 261, 3) := by decide +kernel
theorem dX7_tell_36 : decode cX7_tell 36 = .ok (.ireturn, 1) := by decide +kernel
def wpX7_tell_0 (C : CT)   (x1 : Int32) (V : Mem) (Q : Option AV → Mem → Prop) : Prop :=
  ((¬ (V 24 0 32) = 60 → (∃ j_1 : Nat, (V 24 0 32) = nI j_1 ∧ j_1 < 60 ∧ (∀ V_2 : Mem, V_2 = mu V 45 0 j_1 x1 → (∀ V_3 : Mem, V_3 = mu V_2 24 0 32 ((V_2 24 0 32) + 1) → Q (some (aI (V_3 24 0 32))) V_3)))) ∧ ((V 24 0 32) = 60 → Q (some (aI (-1000000003))) V))
set_option maxRecDepth 10000 in
theorem okX7_tell_0 {d : Nat} {P : Option AV → Mem → Prop}    (x1 : Int32)  (V : Mem)  (h : wpX7_tell_0 (Cl UM d)   x1 V P) : Gq (Kp (d + 1) mX7_tell UM P) UM cX7_tell 2 RX7 0 [(0, aR 24 0), (1, aI x1)] [] V := by
  unfold wpX7_tell_0 at h
  refine go_aload_n (q := 0) dX7_tell_0 rfl rfl ?_
  refine go_geti fg_X7_261 dX7_tell_1 (mM (by decide) (by decide) rfl) ?_
  refine go_bipush (v := 60) dX7_tell_4 (by decide) ?_
  refine go_icmp_ne (tgt := 12) dX7_tell_6 (by decide) (fun c_4 => ?_) (fun c_4 => ?_)
  · have h := h.1 c_4
    refine go_aload_n (q := 0) dX7_tell_12 rfl rfl ?_
    refine go_getr fg_X7_72 dX7_tell_13 (mM (by decide) (by decide) rfl) ?_
    refine go_aload_n (q := 0) dX7_tell_16 rfl rfl ?_
    refine go_geti fg_X7_261 dX7_tell_17 (mM (by decide) (by decide) rfl) ?_
    refine go_iload_n (q := 1) dX7_tell_20 rfl rfl ?_
    obtain ⟨j_1, e_j_1, l_j_1, h⟩ := h
    refine go_iast (r := 45) (n := 60) (j := j_1) rfl (by decide) dX7_tell_21 (mM (by decide) (by decide) rfl) e_j_1 l_j_1 ?_
    refine nmV (fun V_2 e_V_2 => ?_)
    have h := h V_2 e_V_2
    refine go_aload_n (q := 0) dX7_tell_22 rfl rfl ?_
    refine go_dup dX7_tell_23 rfl ?_
    refine go_geti fg_X7_261 dX7_tell_24 (mM (by decide) (by decide) rfl) ?_
    refine go_iconst (v := 1) dX7_tell_27 (by decide) ?_
    refine go_iadd dX7_tell_28 ?_
    refine go_puti fp_X7_261 dX7_tell_29 (mM (by decide) (by decide) rfl) ?_
    refine nmV (fun V_3 e_V_3 => ?_)
    have h := h V_3 e_V_3
    refine go_aload_n (q := 0) dX7_tell_32 rfl rfl ?_
    refine go_geti fg_X7_261 dX7_tell_33 (mM (by decide) (by decide) rfl) ?_
    exact go_iret rfl dX7_tell_36 h
  · have h := h.2 c_4
    refine go_ldc dX7_tell_9 ct_X7_85 ?_
    exact go_iret rfl dX7_tell_11 h
theorem clX7_tell {d : Nat} {P : Option AV → Mem → Prop}    (x1 : Int32) (V : Mem)  (h : wpX7_tell_0 (Cl UM d)   x1 V P) : Cl UM (d + 1) mX7_tell [aR 24 0, aI x1] V P :=
  cl_of [(0, aR 24 0), (1, aI x1)] (by decide) (fun _ => Nat.le_of_ble_eq_true rfl) (fun _ => rfl) (okX7_tell_0   x1 V  h)
theorem dX7_check_0 : decode cX7_check 0 = .ok (.aload_n 0, 1) := by decide +kernel
theorem dX7_check_1 : decode cX7_check 1 = .ok (.getfield 261, 3) := by decide +kernel
theorem dX7_check_4 : decode cX7_check 4 = .ok (.istore_n 2, 1) := by decide +kernel
theorem dX7_check_5 : decode cX7_check 5 = .ok (.aload_n 0, 1) := by decide +kernel
theorem dX7_check_6 : decode cX7_check 6 = .ok (.iconst 0, 1) := by decide +kernel
theorem dX7_check_7 : decode cX7_check 7 = .ok (.putfield 261, 3) := by decide +kernel
theorem dX7_check_10 : decode cX7_check 10 = .ok (.iload_n 1, 1) := by decide +kernel
theorem dX7_check_11 : decode cX7_check 11 = .ok (.iconst 1, 1) := by decide +kernel
theorem dX7_check_12 : decode cX7_check 12 = .ok (.bipush 30, 2) := by decide +kernel
theorem dX7_check_14 : decode cX7_check 14 = .ok (.invokestatic 76, 3) := by decide +kernel
theorem dX7_check_17 : decode cX7_check 17 = .ok (.ifCond .ne 6, 3) := by decide +kernel
theorem dX7_check_20 : decode cX7_check 20 = .ok (.ldc 84, 2) := by decide +kernel
theorem dX7_check_22 : decode cX7_check 22 = .ok (.ireturn, 1) := by decide +kernel
theorem dX7_check_23 : decode cX7_check 23 = .ok (.aload_n 0, 1) := by decide +kernel
theorem dX7_check_24 : decode cX7_check 24 = .ok (.getfield 264, 3) := by decide +kernel
theorem dX7_check_27 : decode cX7_check 27 = .ok (.ifCond .ne 7, 3) := by decide +kernel
theorem dX7_check_30 : decode cX7_check 30 = .ok (.ldc_w 260, 3) := by decide +kernel
theorem dX7_check_33 : decode cX7_check 33 = .ok (.ireturn, 1) := by decide +kernel
theorem dX7_check_34 : decode cX7_check 34 = .ok (.aload_n 0, 1) := by decide +kernel
theorem dX7_check_35 : decode cX7_check 35 = .ok (.getfield 9, 3) := by decide +kernel
theorem dX7_check_38 : decode cX7_check 38 = .ok (.aload_n 0, 1) := by decide +kernel
theorem dX7_check_39 : decode cX7_check 39 = .ok (.getfield 16, 3) := by decide +kernel
theorem dX7_check_42 : decode cX7_check 42 = .ok (.invokestatic 268, 3) := by decide +kernel
theorem dX7_check_45 : decode cX7_check 45 = .ok (.aload_n 0, 1) := by decide +kernel
theorem dX7_check_46 : decode cX7_check 46 = .ok (.getfield 13, 3) := by decide +kernel
theorem dX7_check_49 : decode cX7_check 49 = .ok (.aload_n 0, 1) := by decide +kernel
theorem dX7_check_50 : decode cX7_check 50 = .ok (.getfield 9, 3) := by decide +kernel
theorem dX7_check_53 : decode cX7_check 53 = .ok (.invokestatic 268, 3) := by decide +kernel
theorem dX7_check_56 : decode cX7_check 56 = .ok (.iconst 2, 1) := by decide +kernel
theorem dX7_check_57 : decode cX7_check 57 = .ok (.sipush 9999, 3) := by decide +kernel
theorem dX7_check_60 : decode cX7_check 60 = .ok (.aload_n 0, 1) := by decide +kernel
theorem dX7_check_61 : decode cX7_check 61 = .ok (.getfield 9, 3) := by decide +kernel
theorem dX7_check_64 : decode cX7_check 64 = .ok (.iconst 2, 1) := by decide +kernel
theorem dX7_check_65 : decode cX7_check 65 = .ok (.iaload, 1) := by decide +kernel
theorem dX7_check_66 : decode cX7_check 66 = .ok (.isub, 1) := by decide +kernel
theorem dX7_check_67 : decode cX7_check 67 = .ok (.iconst 0, 1) := by decide +kernel
theorem dX7_check_68 : decode cX7_check 68 = .ok (.iload_n 1, 1) := by decide +kernel
theorem dX7_check_69 : decode cX7_check 69 = .ok (.invokestatic 104, 3) := by decide +kernel
theorem dX7_check_72 : decode cX7_check 72 = .ok (.imul, 1) := by decide +kernel
theorem dX7_check_73 : decode cX7_check 73 = .ok (.istore_n 3, 1) := by decide +kernel
theorem dX7_check_74 : decode cX7_check 74 = .ok (.iconst 0, 1) := by decide +kernel
theorem dX7_check_75 : decode cX7_check 75 = .ok (.istore 4, 2) := by decide +kernel
theorem dX7_check_77 : decode cX7_check 77 = .ok (.iconst 0, 1) := by decide +kernel
theorem dX7_check_78 : decode cX7_check 78 = .ok (.istore 5, 2) := by decide +kernel
theorem dX7_check_80 : decode cX7_check 80 = .ok (.iconst 2, 1) := by decide +kernel
theorem dX7_check_81 : decode cX7_check 81 = .ok (.iload 5, 2) := by decide +kernel
theorem dX7_check_83 : decode cX7_check 83 = .ok (.imul, 1) := by decide +kernel
theorem dX7_check_84 : decode cX7_check 84 = .ok (.iload_n 3, 1) := by decide +kernel
theorem dX7_check_85 : decode cX7_check 85 = .ok (.if_icmp .ge 98, 3) := by decide +kernel
theorem dX7_check_88 : decode cX7_check 88 = .ok (.iload 4, 2) := by decide +kernel
theorem dX7_check_90 : decode cX7_check 90 = .ok (.iconst 2, 1) := by decide +kernel
theorem dX7_check_91 : decode cX7_check 91 = .ok (.iload 5, 2) := by decide +kernel
theorem dX7_check_93 : decode cX7_check 93 = .ok (.imul, 1) := by decide +kernel
theorem dX7_check_94 : decode cX7_check 94 = .ok (.if_icmp .ne 89, 3) := by decide +kernel
theorem dX7_check_97 : decode cX7_check 97 = .ok (.aload_n 0, 1) := by decide +kernel
theorem dX7_check_98 : decode cX7_check 98 = .ok (.invokevirtual 152, 3) := by decide +kernel
theorem dX7_check_101 : decode cX7_check 101 = .ok (.istore 6, 2) := by decide +kernel
theorem dX7_check_103 : decode cX7_check 103 = .ok (.iload 4, 2) := by decide +kernel
theorem dX7_check_105 : decode cX7_check 105 = .ok (.iload 4, 2) := by decide +kernel
theorem dX7_check_107 : decode cX7_check 107 = .ok (.iload_n 2, 1) := by decide +kernel
theorem dX7_check_108 : decode cX7_check 108 = .ok (.if_icmp .ge 22, 3) := by decide +kernel
theorem dX7_check_111 : decode cX7_check 111 = .ok (.aload_n 0, 1) := by decide +kernel
theorem dX7_check_112 : decode cX7_check 112 = .ok (.getfield 72, 3) := by decide +kernel
theorem dX7_check_115 : decode cX7_check 115 = .ok (.iload 4, 2) := by decide +kernel
theorem dX7_check_117 : decode cX7_check 117 = .ok (.iaload, 1) := by decide +kernel
theorem dX7_check_118 : decode cX7_check 118 = .ok (.aload_n 0, 1) := by decide +kernel
theorem dX7_check_119 : decode cX7_check 119 = .ok (.iconst 4, 1) := by decide +kernel
theorem dX7_check_120 : decode cX7_check 120 = .ok (.invokevirtual 158, 3) := by decide +kernel
theorem dX7_check_123 : decode cX7_check 123 = .ok (.if_icmp .ne 7, 3) := by decide +kernel
theorem dX7_check_126 : decode cX7_check 126 = .ok (.iconst 1, 1) := by decide +kernel
theorem dX7_check_127 : decode cX7_check 127 = .ok (.goto 4, 3) := by decide +kernel
theorem dX7_check_130 : decode cX7_check 130 = .ok (.iconst 0, 1) := by decide +kernel
theorem dX7_check_131 : decode cX7_check 131 = .ok (.iadd, 1) := by decide +kernel
theorem dX7_check_132 : decode cX7_check 132 = .ok (.istore 4, 2) := by decide +kernel
theorem dX7_check_134 : decode cX7_check 134 = .ok (.iload 4, 2) := by decide +kernel
theorem dX7_check_136 : decode cX7_check 136 = .ok (.iload 4, 2) := by decide +kernel
theorem dX7_check_138 : decode cX7_check 138 = .ok (.iconst 2, 1) := by decide +kernel
theorem dX7_check_139 : decode cX7_check 139 = .ok (.iload 5, 2) := by decide +kernel
theorem dX7_check_141 : decode cX7_check 141 = .ok (.imul, 1) := by decide +kernel
theorem dX7_check_142 : decode cX7_check 142 = .ok (.iconst 1, 1) := by decide +kernel
theorem dX7_check_143 : decode cX7_check 143 = .ok (.iadd, 1) := by decide +kernel
theorem dX7_check_144 : decode cX7_check 144 = .ok (.if_icmp .ne 29, 3) := by decide +kernel
theorem dX7_check_147 : decode cX7_check 147 = .ok (.iload 4, 2) := by decide +kernel
theorem dX7_check_149 : decode cX7_check 149 = .ok (.iload_n 2, 1) := by decide +kernel
theorem dX7_check_150 : decode cX7_check 150 = .ok (.if_icmp .ge 23, 3) := by decide +kernel
theorem dX7_check_153 : decode cX7_check 153 = .ok (.aload_n 0, 1) := by decide +kernel
theorem dX7_check_154 : decode cX7_check 154 = .ok (.getfield 72, 3) := by decide +kernel
theorem dX7_check_157 : decode cX7_check 157 = .ok (.iload 4, 2) := by decide +kernel
theorem dX7_check_159 : decode cX7_check 159 = .ok (.iaload, 1) := by decide +kernel
theorem dX7_check_160 : decode cX7_check 160 = .ok (.aload_n 0, 1) := by decide +kernel
theorem dX7_check_161 : decode cX7_check 161 = .ok (.getfield 9, 3) := by decide +kernel
theorem dX7_check_164 : decode cX7_check 164 = .ok (.iconst 4, 1) := by decide +kernel
theorem dX7_check_165 : decode cX7_check 165 = .ok (.iaload, 1) := by decide +kernel
theorem dX7_check_166 : decode cX7_check 166 = .ok (.if_icmp .ne 7, 3) := by decide +kernel
theorem dX7_check_169 : decode cX7_check 169 = .ok (.iconst 1, 1) := by decide +kernel
theorem dX7_check_170 : decode cX7_check 170 = .ok (.goto 4, 3) := by decide +kernel
theorem dX7_check_173 : decode cX7_check 173 = .ok (.iconst 0, 1) := by decide +kernel
theorem dX7_check_174 : decode cX7_check 174 = .ok (.iadd, 1) := by decide +kernel
theorem dX7_check_175 : decode cX7_check 175 = .ok (.istore 4, 2) := by decide +kernel
theorem dX7_check_177 : decode cX7_check 177 = .ok (.iinc 5 1, 3) := by decide +kernel
theorem dX7_check_180 : decode cX7_check 180 = .ok (.goto (-100), 3) := by decide +kernel
theorem dX7_check_183 : decode cX7_check 183 = .ok (.aload_n 0, 1) := by decide +kernel
theorem dX7_check_184 : decode cX7_check 184 = .ok (.getfield 16, 3) := by decide +kernel
theorem dX7_check_187 : decode cX7_check 187 = .ok (.aload_n 0, 1) := by decide +kernel
theorem dX7_check_188 : decode cX7_check 188 = .ok (.getfield 9, 3) := by decide +kernel
theorem dX7_check_191 : decode cX7_check 191 = .ok (.invokestatic 268, 3) := by decide +kernel
theorem dX7_check_194 : decode cX7_check 194 = .ok (.iload 4, 2) := by decide +kernel
theorem dX7_check_196 : decode cX7_check 196 = .ok (.iload_n 2, 1) := by decide +kernel
theorem dX7_check_197 : decode cX7_check 197 = .ok (.if_icmp .ne 13, 3) := by decide +kernel
theorem dX7_check_200 : decode cX7_check 200 = .ok (.iload 4, 2) := by decide +kernel
theorem dX7_check_202 : decode cX7_check 202 = .ok (.iload_n 3, 1) := by decide +kernel
theorem dX7_check_203 : decode cX7_check 203 = .ok (.if_icmp .ne 7, 3) := by decide +kernel
theorem dX7_check_206 : decode cX7_check 206 = .ok (.iconst 0, 1) := by decide +kernel
theorem dX7_check_207 : decode cX7_check 207 = .ok (.goto 7, 3) := by decide +kernel
theorem dX7_check_210 : decode cX7_check 210 = .ok (.iconst 1, 1) := by decide +kernel
theorem dX7_check_211 : decode cX7_check 211 = .ok (.iload 4, 2) := by decide +kernel
theorem dX7_check_213 : decode cX7_check 213 = .ok (.iadd, 1) := by decide +kernel
theorem dX7_check_214 : decode cX7_check 214 = .ok (.ireturn, 1) := by decide +kernel
def wpX7_check_183 (C : CT) (I80 : Int32 → Int32 → Int32 → Int32 → Int32 → Mem → Prop)  (x1 : Int32) (x2 : Int32) (x3 : Int32) (x4 : Int32) (x5 : Int32) (V : Mem) (Q : Option AV → Mem → Prop) : Prop :=
  (cV C mX7_copyAll [aR 27 0, aR 25 0] V (fun V_1 => ((¬ x4 = x2 → Q (some (aI (1 + x4))) V_1) ∧ (x4 = x2 → ((¬ x4 = x3 → Q (some (aI (1 + x4))) V_1) ∧ (x4 = x3 → Q (some (aI 0)) V_1))))))
set_option maxRecDepth 10000 in
theorem okX7_check_183 {d : Nat} {P : Option AV → Mem → Prop} {I80 : Int32 → Int32 → Int32 → Int32 → Int32 → Mem → Prop}   (x1 : Int32) (x2 : Int32) (x3 : Int32) (x4 : Int32) (x5 : Int32)  (V : Mem) (hk80 : ∀ (x1 : Int32) (x2 : Int32) (x3 : Int32) (x4 : Int32) (x5 : Int32), ∀ (V : Mem), I80 x1 x2 x3 x4 x5 V → Gq (Kp (d + 1) mX7_check UM P) UM cX7_check 7 RX7 80 [(0, aR 24 0), (1, aI x1), (2, aI x2), (3, aI x3), (4, aI x4), (5, aI x5)] [] V) (h : wpX7_check_183 (Cl UM d) I80  x1 x2 x3 x4 x5 V P) : Gq (Kp (d + 1) mX7_check UM P) UM cX7_check 7 RX7 183 [(0, aR 24 0), (1, aI x1), (2, aI x2), (3, aI x3), (4, aI x4), (5, aI x5)] [] V := by
  unfold wpX7_check_183 at h
  refine go_aload_n (q := 0) dX7_check_183 rfl rfl ?_
  refine go_getr fg_X7_16 dX7_check_184 (mM (by decide) (by decide) rfl) ?_
  refine go_aload_n (q := 0) dX7_check_187 rfl rfl ?_
  refine go_getr fg_X7_9 dX7_check_188 (mM (by decide) (by decide) rfl) ?_
  refine go_cSV (As := [aR 27 0, aR 25 0]) (st := []) ms_X7_copyAll dX7_check_191 ml_X7_268 (hr_Kp (Nat.le_refl d)) rfl rfl (Nat.le_of_ble_eq_true rfl) h (fun V_1 h => ?_)
  refine go_iload (q := 4) dX7_check_194 rfl ?_
  refine go_iload_n (q := 2) dX7_check_196 rfl rfl ?_
  refine go_icmp_ne (tgt := 210) dX7_check_197 (by decide) (fun c_3 => ?_) (fun c_3 => ?_)
  · have h := h.1 c_3
    refine go_iconst (v := 1) dX7_check_210 (by decide) ?_
    refine go_iload (q := 4) dX7_check_211 rfl ?_
    refine go_iadd dX7_check_213 ?_
    exact go_iret rfl dX7_check_214 h
  · have h := h.2 c_3
    refine go_iload (q := 4) dX7_check_200 rfl ?_
    refine go_iload_n (q := 3) dX7_check_202 rfl rfl ?_
    refine go_icmp_ne (tgt := 210) dX7_check_203 (by decide) (fun c_2 => ?_) (fun c_2 => ?_)
    · have h := h.1 c_2
      refine go_iconst (v := 1) dX7_check_210 (by decide) ?_
      refine go_iload (q := 4) dX7_check_211 rfl ?_
      refine go_iadd dX7_check_213 ?_
      exact go_iret rfl dX7_check_214 h
    · have h := h.2 c_2
      refine go_iconst (v := 0) dX7_check_206 (by decide) ?_
      refine go_goto (tgt := 214) dX7_check_207 (by decide) ?_
      exact go_iret rfl dX7_check_214 h
def wpX7_check_131 (C : CT) (I80 : Int32 → Int32 → Int32 → Int32 → Int32 → Mem → Prop)  (x1 : Int32) (x2 : Int32) (x3 : Int32) (x4 : Int32) (x5 : Int32) (x6 : Int32) (s0 : Int32) (s1 : Int32) (V : Mem) (Q : Option AV → Mem → Prop) : Prop :=
  (∀ z_1 : Int32, z_1 = (s1 + s0) → ((¬ z_1 = ((2 * x5) + 1) → (∀ z_2 : Int32, z_2 = (z_1 + 0) → I80 x1 x2 x3 z_2 (x5 + 1) V)) ∧ (z_1 = ((2 * x5) + 1) → ((x2 ≤ z_1 → (∀ z_3 : Int32, z_3 = (z_1 + 0) → I80 x1 x2 x3 z_3 (x5 + 1) V)) ∧ (¬ x2 ≤ z_1 → (∃ j_4 : Nat, z_1 = nI j_4 ∧ j_4 < 60 ∧ ((¬ (V 45 0 j_4) = (V 25 0 4) → (∀ z_5 : Int32, z_5 = (z_1 + 0) → I80 x1 x2 x3 z_5 (x5 + 1) V)) ∧ ((V 45 0 j_4) = (V 25 0 4) → (∀ z_6 : Int32, z_6 = (z_1 + 1) → I80 x1 x2 x3 z_6 (x5 + 1) V)))))))))
set_option maxRecDepth 10000 in
theorem okX7_check_131 {d : Nat} {P : Option AV → Mem → Prop} {I80 : Int32 → Int32 → Int32 → Int32 → Int32 → Mem → Prop}   (x1 : Int32) (x2 : Int32) (x3 : Int32) (x4 : Int32) (x5 : Int32) (x6 : Int32) (s0 : Int32) (s1 : Int32)  (V : Mem) (hk80 : ∀ (x1 : Int32) (x2 : Int32) (x3 : Int32) (x4 : Int32) (x5 : Int32), ∀ (V : Mem), I80 x1 x2 x3 x4 x5 V → Gq (Kp (d + 1) mX7_check UM P) UM cX7_check 7 RX7 80 [(0, aR 24 0), (1, aI x1), (2, aI x2), (3, aI x3), (4, aI x4), (5, aI x5)] [] V) (h : wpX7_check_131 (Cl UM d) I80  x1 x2 x3 x4 x5 x6 s0 s1 V P) : Gq (Kp (d + 1) mX7_check UM P) UM cX7_check 7 RX7 131 [(0, aR 24 0), (1, aI x1), (2, aI x2), (3, aI x3), (4, aI x4), (5, aI x5), (6, aI x6)] [aI s0, aI s1] V := by
  unfold wpX7_check_131 at h
  refine go_iadd dX7_check_131 ?_
  refine nmI (fun z_1 e_z_1 => ?_)
  have h := h z_1 e_z_1
  refine go_istore (al1 := [(4, aI z_1), (0, aR 24 0), (1, aI x1), (2, aI x2), (3, aI x3), (5, aI x5), (6, aI x6)]) dX7_check_132 (by decide) rfl ?_
  refine go_iload (q := 0) dX7_check_134 rfl ?_
  refine go_iload (q := 0) dX7_check_136 rfl ?_
  refine go_iconst (v := 2) dX7_check_138 (by decide) ?_
  refine go_iload (q := 5) dX7_check_139 rfl ?_
  refine go_imul dX7_check_141 ?_
  refine go_iconst (v := 1) dX7_check_142 (by decide) ?_
  refine go_iadd dX7_check_143 ?_
  refine go_icmp_ne (tgt := 173) dX7_check_144 (by decide) (fun c_9 => ?_) (fun c_9 => ?_)
  · have h := h.1 c_9
    refine go_iconst (v := 0) dX7_check_173 (by decide) ?_
    refine go_iadd dX7_check_174 ?_
    refine nmI (fun z_2 e_z_2 => ?_)
    have h := h z_2 e_z_2
    refine go_istore (al1 := [(4, aI z_2), (0, aR 24 0), (1, aI x1), (2, aI x2), (3, aI x3), (5, aI x5), (6, aI x6)]) dX7_check_175 (by decide) rfl ?_
    refine go_iinc (q := 5) (y := 1) (al1 := [(5, aI (x5 + 1)), (4, aI z_2), (0, aR 24 0), (1, aI x1), (2, aI x2), (3, aI x3), (6, aI x6)]) dX7_check_177 rfl (by decide) (by decide) rfl ?_
    refine go_goto (tgt := 80) dX7_check_180 (by decide) ?_
    refine go_sub (al1 := [(0, aR 24 0), (1, aI x1), (2, aI x2), (3, aI x3), (4, aI z_2), (5, aI (x5 + 1))]) [2, 3, 4, 5, 1, 0] rfl ?_
    exact hk80 x1 x2 x3 z_2 (x5 + 1)  V h
  · have h := h.2 c_9
    refine go_iload (q := 0) dX7_check_147 rfl ?_
    refine go_iload_n (q := 3) dX7_check_149 rfl rfl ?_
    refine go_icmp_ge (tgt := 173) dX7_check_150 (by decide) (fun c_8 => ?_) (fun c_8 => ?_)
    · have h := h.1 c_8
      refine go_iconst (v := 0) dX7_check_173 (by decide) ?_
      refine go_iadd dX7_check_174 ?_
      refine nmI (fun z_3 e_z_3 => ?_)
      have h := h z_3 e_z_3
      refine go_istore (al1 := [(4, aI z_3), (0, aR 24 0), (1, aI x1), (2, aI x2), (3, aI x3), (5, aI x5), (6, aI x6)]) dX7_check_175 (by decide) rfl ?_
      refine go_iinc (q := 5) (y := 1) (al1 := [(5, aI (x5 + 1)), (4, aI z_3), (0, aR 24 0), (1, aI x1), (2, aI x2), (3, aI x3), (6, aI x6)]) dX7_check_177 rfl (by decide) (by decide) rfl ?_
      refine go_goto (tgt := 80) dX7_check_180 (by decide) ?_
      refine go_sub (al1 := [(0, aR 24 0), (1, aI x1), (2, aI x2), (3, aI x3), (4, aI z_3), (5, aI (x5 + 1))]) [2, 3, 4, 5, 1, 0] rfl ?_
      exact hk80 x1 x2 x3 z_3 (x5 + 1)  V h
    · have h := h.2 c_8
      refine go_aload_n (q := 1) dX7_check_153 rfl rfl ?_
      refine go_getr fg_X7_72 dX7_check_154 (mM (by decide) (by decide) rfl) ?_
      refine go_iload (q := 0) dX7_check_157 rfl ?_
      obtain ⟨j_4, e_j_4, l_j_4, h⟩ := h
      refine go_iald (r := 45) (n := 60) (j := j_4) rfl (by decide) dX7_check_159 (mM (by decide) (by decide) rfl) e_j_4 l_j_4 ?_
      refine go_aload_n (q := 1) dX7_check_160 rfl rfl ?_
      refine go_getr fg_X7_9 dX7_check_161 (mM (by decide) (by decide) rfl) ?_
      refine go_iconst (v := 4) dX7_check_164 (by decide) ?_
      refine go_iald (r := 25) (n := 1479) (j := 4) rfl (by decide) dX7_check_165 (mM (by decide) (by decide) rfl) (by decide) (by decide) ?_
      refine go_icmp_ne (tgt := 173) dX7_check_166 (by decide) (fun c_7 => ?_) (fun c_7 => ?_)
      · have h := h.1 c_7
        refine go_iconst (v := 0) dX7_check_173 (by decide) ?_
        refine go_iadd dX7_check_174 ?_
        refine nmI (fun z_5 e_z_5 => ?_)
        have h := h z_5 e_z_5
        refine go_istore (al1 := [(4, aI z_5), (0, aR 24 0), (1, aI x1), (2, aI x2), (3, aI x3), (5, aI x5), (6, aI x6)]) dX7_check_175 (by decide) rfl ?_
        refine go_iinc (q := 5) (y := 1) (al1 := [(5, aI (x5 + 1)), (4, aI z_5), (0, aR 24 0), (1, aI x1), (2, aI x2), (3, aI x3), (6, aI x6)]) dX7_check_177 rfl (by decide) (by decide) rfl ?_
        refine go_goto (tgt := 80) dX7_check_180 (by decide) ?_
        refine go_sub (al1 := [(0, aR 24 0), (1, aI x1), (2, aI x2), (3, aI x3), (4, aI z_5), (5, aI (x5 + 1))]) [2, 3, 4, 5, 1, 0] rfl ?_
        exact hk80 x1 x2 x3 z_5 (x5 + 1)  V h
      · have h := h.2 c_7
        refine go_iconst (v := 1) dX7_check_169 (by decide) ?_
        refine go_goto (tgt := 174) dX7_check_170 (by decide) ?_
        refine go_iadd dX7_check_174 ?_
        refine nmI (fun z_6 e_z_6 => ?_)
        have h := h z_6 e_z_6
        refine go_istore (al1 := [(4, aI z_6), (0, aR 24 0), (1, aI x1), (2, aI x2), (3, aI x3), (5, aI x5), (6, aI x6)]) dX7_check_175 (by decide) rfl ?_
        refine go_iinc (q := 5) (y := 1) (al1 := [(5, aI (x5 + 1)), (4, aI z_6), (0, aR 24 0), (1, aI x1), (2, aI x2), (3, aI x3), (6, aI x6)]) dX7_check_177 rfl (by decide) (by decide) rfl ?_
        refine go_goto (tgt := 80) dX7_check_180 (by decide) ?_
        refine go_sub (al1 := [(0, aR 24 0), (1, aI x1), (2, aI x2), (3, aI x3), (4, aI z_6), (5, aI (x5 + 1))]) [2, 3, 4, 5, 1, 0] rfl ?_
        exact hk80 x1 x2 x3 z_6 (x5 + 1)  V h
def wpX7_check_130 (C : CT) (I80 : Int32 → Int32 → Int32 → Int32 → Int32 → Mem → Prop)  (x1 : Int32) (x2 : Int32) (x3 : Int32) (x4 : Int32) (x5 : Int32) (x6 : Int32) (s0 : Int32) (V : Mem) (Q : Option AV → Mem → Prop) : Prop :=
  wpX7_check_131 C I80  x1 x2 x3 x4 x5 x6 0 s0 V Q
set_option maxRecDepth 10000 in
theorem okX7_check_130 {d : Nat} {P : Option AV → Mem → Prop} {I80 : Int32 → Int32 → Int32 → Int32 → Int32 → Mem → Prop}   (x1 : Int32) (x2 : Int32) (x3 : Int32) (x4 : Int32) (x5 : Int32) (x6 : Int32) (s0 : Int32)  (V : Mem) (hk80 : ∀ (x1 : Int32) (x2 : Int32) (x3 : Int32) (x4 : Int32) (x5 : Int32), ∀ (V : Mem), I80 x1 x2 x3 x4 x5 V → Gq (Kp (d + 1) mX7_check UM P) UM cX7_check 7 RX7 80 [(0, aR 24 0), (1, aI x1), (2, aI x2), (3, aI x3), (4, aI x4), (5, aI x5)] [] V) (h : wpX7_check_130 (Cl UM d) I80  x1 x2 x3 x4 x5 x6 s0 V P) : Gq (Kp (d + 1) mX7_check UM P) UM cX7_check 7 RX7 130 [(0, aR 24 0), (1, aI x1), (2, aI x2), (3, aI x3), (4, aI x4), (5, aI x5), (6, aI x6)] [aI s0] V := by
  unfold wpX7_check_130 at h
  refine go_iconst (v := 0) dX7_check_130 (by decide) ?_
  exact okX7_check_131   x1 x2 x3 x4 x5 x6 0 s0  V hk80 h
def wpX7_check_80 (C : CT) (I80 : Int32 → Int32 → Int32 → Int32 → Int32 → Mem → Prop)  (x1 : Int32) (x2 : Int32) (x3 : Int32) (x4 : Int32) (x5 : Int32) (V : Mem) (Q : Option AV → Mem → Prop) : Prop :=
  ((x3 ≤ (2 * x5) → wpX7_check_183 C I80  x1 x2 x3 x4 x5 V Q) ∧ (¬ x3 ≤ (2 * x5) → ((¬ x4 = (2 * x5) → wpX7_check_183 C I80  x1 x2 x3 x4 x5 V Q) ∧ (x4 = (2 * x5) → (cI C mX7_hour [aR 24 0] V (fun x_2 V_1 => ((x2 ≤ x4 → wpX7_check_130 C I80  x1 x2 x3 x4 x5 x_2 x4 V_1 Q) ∧ (¬ x2 ≤ x4 → (∃ j_3 : Nat, x4 = nI j_3 ∧ j_3 < 60 ∧ (cI C mX7_sumOf [aR 24 0, aI 4] V_1 (fun x_5 V_4 => ((¬ (V_1 45 0 j_3) = x_5 → wpX7_check_130 C I80  x1 x2 x3 x4 x5 x_2 x4 V_4 Q) ∧ ((V_1 45 0 j_3) = x_5 → wpX7_check_131 C I80  x1 x2 x3 x4 x5 x_2 1 x4 V_4 Q)))))))))))))
set_option maxRecDepth 10000 in
theorem okX7_check_80 {d : Nat} {P : Option AV → Mem → Prop} {I80 : Int32 → Int32 → Int32 → Int32 → Int32 → Mem → Prop}   (x1 : Int32) (x2 : Int32) (x3 : Int32) (x4 : Int32) (x5 : Int32)  (V : Mem) (hk80 : ∀ (x1 : Int32) (x2 : Int32) (x3 : Int32) (x4 : Int32) (x5 : Int32), ∀ (V : Mem), I80 x1 x2 x3 x4 x5 V → Gq (Kp (d + 1) mX7_check UM P) UM cX7_check 7 RX7 80 [(0, aR 24 0), (1, aI x1), (2, aI x2), (3, aI x3), (4, aI x4), (5, aI x5)] [] V) (h : wpX7_check_80 (Cl UM d) I80  x1 x2 x3 x4 x5 V P) : Gq (Kp (d + 1) mX7_check UM P) UM cX7_check 7 RX7 80 [(0, aR 24 0), (1, aI x1), (2, aI x2), (3, aI x3), (4, aI x4), (5, aI x5)] [] V := by
  unfold wpX7_check_80 at h
  refine go_iconst (v := 2) dX7_check_80 (by decide) ?_
  refine go_iload (q := 5) dX7_check_81 rfl ?_
  refine go_imul dX7_check_83 ?_
  refine go_iload_n (q := 3) dX7_check_84 rfl rfl ?_
  refine go_icmp_ge (tgt := 183) dX7_check_85 (by decide) (fun c_9 => ?_) (fun c_9 => ?_)
  · have h := h.1 c_9
    exact okX7_check_183   x1 x2 x3 x4 x5  V hk80 h
  · have h := h.2 c_9
    refine go_iload (q := 4) dX7_check_88 rfl ?_
    refine go_iconst (v := 2) dX7_check_90 (by decide) ?_
    refine go_iload (q := 5) dX7_check_91 rfl ?_
    refine go_imul dX7_check_93 ?_
    refine go_icmp_ne (tgt := 183) dX7_check_94 (by decide) (fun c_8 => ?_) (fun c_8 => ?_)
    · have h := h.1 c_8
      exact okX7_check_183   x1 x2 x3 x4 x5  V hk80 h
    · have h := h.2 c_8
      refine go_aload_n (q := 0) dX7_check_97 rfl rfl ?_
      refine go_cVI (As := []) (st := []) (r := 24) (i := 0) mv_X7_hour dX7_check_98 ml_X7_152 (hr_Kp (Nat.le_refl d)) rfl rfl (mM (by decide) (by decide) rfl) rfl rfl (Nat.le_of_ble_eq_true rfl) h (fun x_2 V_1 h => ?_)
      refine go_istore (al1 := [(6, aI x_2), (0, aR 24 0), (1, aI x1), (2, aI x2), (3, aI x3), (4, aI x4), (5, aI x5)]) dX7_check_101 (by decide) rfl ?_
      refine go_iload (q := 5) dX7_check_103 rfl ?_
      refine go_iload (q := 5) dX7_check_105 rfl ?_
      refine go_iload_n (q := 3) dX7_check_107 rfl rfl ?_
      refine go_icmp_ge (tgt := 130) dX7_check_108 (by decide) (fun c_7 => ?_) (fun c_7 => ?_)
      · have h := h.1 c_7
        refine go_sub (al1 := [(0, aR 24 0), (1, aI x1), (2, aI x2), (3, aI x3), (4, aI x4), (5, aI x5), (6, aI x_2)]) [1, 2, 3, 4, 5, 6, 0] rfl ?_
        exact okX7_check_130   x1 x2 x3 x4 x5 x_2 x4  V_1 hk80 h
      · have h := h.2 c_7
        refine go_aload_n (q := 1) dX7_check_111 rfl rfl ?_
        refine go_getr fg_X7_72 dX7_check_112 (mM (by decide) (by decide) rfl) ?_
        refine go_iload (q := 5) dX7_check_115 rfl ?_
        obtain ⟨j_3, e_j_3, l_j_3, h⟩ := h
        refine go_iald (r := 45) (n := 60) (j := j_3) rfl (by decide) dX7_check_117 (mM (by decide) (by decide) rfl) e_j_3 l_j_3 ?_
        refine go_aload_n (q := 1) dX7_check_118 rfl rfl ?_
        refine go_iconst (v := 4) dX7_check_119 (by decide) ?_
        refine go_cVI (As := [aI 4]) (st := [aI (V_1 45 0 j_3), aI x4]) (r := 24) (i := 0) mv_X7_sumOf dX7_check_120 ml_X7_158 (hr_Kp (Nat.le_refl d)) rfl rfl (mM (by decide) (by decide) rfl) rfl rfl (Nat.le_of_ble_eq_true rfl) h (fun x_5 V_4 h => ?_)
        refine go_icmp_ne (tgt := 130) dX7_check_123 (by decide) (fun c_6 => ?_) (fun c_6 => ?_)
        · have h := h.1 c_6
          refine go_sub (al1 := [(0, aR 24 0), (1, aI x1), (2, aI x2), (3, aI x3), (4, aI x4), (5, aI x5), (6, aI x_2)]) [1, 2, 3, 4, 5, 6, 0] rfl ?_
          exact okX7_check_130   x1 x2 x3 x4 x5 x_2 x4  V_4 hk80 h
        · have h := h.2 c_6
          refine go_iconst (v := 1) dX7_check_126 (by decide) ?_
          refine go_goto (tgt := 131) dX7_check_127 (by decide) ?_
          refine go_sub (al1 := [(0, aR 24 0), (1, aI x1), (2, aI x2), (3, aI x3), (4, aI x4), (5, aI x5), (6, aI x_2)]) [1, 2, 3, 4, 5, 6, 0] rfl ?_
          exact okX7_check_131   x1 x2 x3 x4 x5 x_2 1 x4  V_4 hk80 h
def wpX7_check_0 (C : CT) (I80 : Int32 → Int32 → Int32 → Int32 → Int32 → Mem → Prop)  (x1 : Int32) (V : Mem) (Q : Option AV → Mem → Prop) : Prop :=
  (∀ z_1 : Int32, z_1 = (V 24 0 32) → (∀ V_2 : Mem, V_2 = mu V 24 0 32 0 → (cI C mX7_in [aI x1, aI 1, aI 30] V_2 (fun x_4 V_3 => ((¬ x_4 = 0 → ((¬ (V_3 24 0 3) = 0 → (cV C mX7_copyAll [aR 25 0, aR 27 0] V_3 (fun V_5 => (cV C mX7_copyAll [aR 26 0, aR 25 0] V_5 (fun V_6 => (cI C mX7_within [aI (9999 - (V_6 25 0 2)), aI 0, aI x1] V_6 (fun x_8 V_7 => (∀ z_9 : Int32, z_9 = (2 * x_8) → I80 x1 z_1 z_9 0 0 V_7)))))))) ∧ ((V_3 24 0 3) = 0 → Q (some (aI (-1000000002))) V_3))) ∧ (x_4 = 0 → Q (some (aI (-1000000001))) V_3))))))
set_option maxRecDepth 10000 in
theorem okX7_check_0 {d : Nat} {P : Option AV → Mem → Prop} {I80 : Int32 → Int32 → Int32 → Int32 → Int32 → Mem → Prop}   (x1 : Int32)  (V : Mem) (hk80 : ∀ (x1 : Int32) (x2 : Int32) (x3 : Int32) (x4 : Int32) (x5 : Int32), ∀ (V : Mem), I80 x1 x2 x3 x4 x5 V → Gq (Kp (d + 1) mX7_check UM P) UM cX7_check 7 RX7 80 [(0, aR 24 0), (1, aI x1), (2, aI x2), (3, aI x3), (4, aI x4), (5, aI x5)] [] V) (h : wpX7_check_0 (Cl UM d) I80  x1 V P) : Gq (Kp (d + 1) mX7_check UM P) UM cX7_check 7 RX7 0 [(0, aR 24 0), (1, aI x1)] [] V := by
  unfold wpX7_check_0 at h
  refine go_aload_n (q := 0) dX7_check_0 rfl rfl ?_
  refine go_geti fg_X7_261 dX7_check_1 (mM (by decide) (by decide) rfl) ?_
  refine nmI (fun z_1 e_z_1 => ?_)
  have h := h z_1 e_z_1
  refine go_istore_n (al1 := [(2, aI z_1), (0, aR 24 0), (1, aI x1)]) dX7_check_4 rfl (by decide) rfl ?_
  refine go_aload_n (q := 1) dX7_check_5 rfl rfl ?_
  refine go_iconst (v := 0) dX7_check_6 (by decide) ?_
  refine go_puti fp_X7_261 dX7_check_7 (mM (by decide) (by decide) rfl) ?_
  refine nmV (fun V_2 e_V_2 => ?_)
  have h := h V_2 e_V_2
  refine go_iload_n (q := 2) dX7_check_10 rfl rfl ?_
  refine go_iconst (v := 1) dX7_check_11 (by decide) ?_
  refine go_bipush (v := 30) dX7_check_12 (by decide) ?_
  refine go_cSI (As := [aI x1, aI 1, aI 30]) (st := []) ms_X7_in dX7_check_14 ml_X7_76 (hr_Kp (Nat.le_refl d)) rfl rfl (Nat.le_of_ble_eq_true rfl) h (fun x_4 V_3 h => ?_)
  refine go_if_ne (tgt := 23) dX7_check_17 (by decide) (fun c_11 => ?_) (fun c_11 => ?_)
  · have h := h.1 c_11
    refine go_aload_n (q := 1) dX7_check_23 rfl rfl ?_
    refine go_geti fg_X7_264 dX7_check_24 (mM (by decide) (by decide) rfl) ?_
    refine go_if_ne (tgt := 34) dX7_check_27 (by decide) (fun c_10 => ?_) (fun c_10 => ?_)
    · have h := h.1 c_10
      refine go_aload_n (q := 1) dX7_check_34 rfl rfl ?_
      refine go_getr fg_X7_9 dX7_check_35 (mM (by decide) (by decide) rfl) ?_
      refine go_aload_n (q := 1) dX7_check_38 rfl rfl ?_
      refine go_getr fg_X7_16 dX7_check_39 (mM (by decide) (by decide) rfl) ?_
      refine go_cSV (As := [aR 25 0, aR 27 0]) (st := []) ms_X7_copyAll dX7_check_42 ml_X7_268 (hr_Kp (Nat.le_refl d)) rfl rfl (Nat.le_of_ble_eq_true rfl) h (fun V_5 h => ?_)
      refine go_aload_n (q := 1) dX7_check_45 rfl rfl ?_
      refine go_getr fg_X7_13 dX7_check_46 (mM (by decide) (by decide) rfl) ?_
      refine go_aload_n (q := 1) dX7_check_49 rfl rfl ?_
      refine go_getr fg_X7_9 dX7_check_50 (mM (by decide) (by decide) rfl) ?_
      refine go_cSV (As := [aR 26 0, aR 25 0]) (st := []) ms_X7_copyAll dX7_check_53 ml_X7_268 (hr_Kp (Nat.le_refl d)) rfl rfl (Nat.le_of_ble_eq_true rfl) h (fun V_6 h => ?_)
      refine go_iconst (v := 2) dX7_check_56 (by decide) ?_
      refine go_sipush (v := 9999) dX7_check_57 (by decide) ?_
      refine go_aload_n (q := 1) dX7_check_60 rfl rfl ?_
      refine go_getr fg_X7_9 dX7_check_61 (mM (by decide) (by decide) rfl) ?_
      refine go_iconst (v := 2) dX7_check_64 (by decide) ?_
      refine go_iald (r := 25) (n := 1479) (j := 2) rfl (by decide) dX7_check_65 (mM (by decide) (by decide) rfl) (by decide) (by decide) ?_
      refine go_isub dX7_check_66 ?_
      refine go_iconst (v := 0) dX7_check_67 (by decide) ?_
      refine go_iload_n (q := 2) dX7_check_68 rfl rfl ?_
      refine go_cSI (As := [aI (9999 - (V_6 25 0 2)), aI 0, aI x1]) (st := [aI 2]) ms_X7_within dX7_check_69 ml_X7_104 (hr_Kp (Nat.le_refl d)) rfl rfl (Nat.le_of_ble_eq_true rfl) h (fun x_8 V_7 h => ?_)
      refine go_imul dX7_check_72 ?_
      refine nmI (fun z_9 e_z_9 => ?_)
      have h := h z_9 e_z_9
      refine go_istore_n (al1 := [(3, aI z_9), (2, aI z_1), (0, aR 24 0), (1, aI x1)]) dX7_check_73 rfl (by decide) rfl ?_
      refine go_iconst (v := 0) dX7_check_74 (by decide) ?_
      refine go_istore (al1 := [(4, aI 0), (3, aI z_9), (2, aI z_1), (0, aR 24 0), (1, aI x1)]) dX7_check_75 (by decide) rfl ?_
      refine go_iconst (v := 0) dX7_check_77 (by decide) ?_
      refine go_istore (al1 := [(5, aI 0), (4, aI 0), (3, aI z_9), (2, aI z_1), (0, aR 24 0), (1, aI x1)]) dX7_check_78 (by decide) rfl ?_
      refine go_sub (al1 := [(0, aR 24 0), (1, aI x1), (2, aI z_1), (3, aI z_9), (4, aI 0), (5, aI 0)]) [4, 5, 3, 2, 1, 0] rfl ?_
      exact hk80 x1 z_1 z_9 0 0  V_7 h
    · have h := h.2 c_10
      refine go_ldcw dX7_check_30 ct_X7_260 ?_
      exact go_iret rfl dX7_check_33 h
  · have h := h.2 c_11
    refine go_ldc dX7_check_20 ct_X7_84 ?_
    exact go_iret rfl dX7_check_22 h
theorem clX7_check {d : Nat} {P : Option AV → Mem → Prop} {I80 : Int32 → Int32 → Int32 → Int32 → Int32 → Mem → Prop}   (x1 : Int32) (V : Mem) (hk80 : ∀ (x1 : Int32) (x2 : Int32) (x3 : Int32) (x4 : Int32) (x5 : Int32), ∀ (V : Mem), I80 x1 x2 x3 x4 x5 V → Gq (Kp (d + 1) mX7_check UM P) UM cX7_check 7 RX7 80 [(0, aR 24 0), (1, aI x1), (2, aI x2), (3, aI x3), (4, aI x4), (5, aI x5)] [] V) (h : wpX7_check_0 (Cl UM d) I80  x1 V P) : Cl UM (d + 1) mX7_check [aR 24 0, aI x1] V P :=
  cl_of [(0, aR 24 0), (1, aI x1)] (by decide) (fun _ => Nat.le_of_ble_eq_true rfl) (fun _ => rfl) (okX7_check_0   x1 V hk80 h)
theorem dX7_keep_0 : decode cX7_keep 0 = .ok (.aload_n 0, 1) := by decide +kernel
theorem dX7_keep_1 : decode cX7_keep 1 = .ok (.getfield 9, 3) := by decide +kernel
theorem dX7_keep_4 : decode cX7_keep 4 = .ok (.aload_n 0, 1) := by decide +kernel
theorem dX7_keep_5 : decode cX7_keep 5 = .ok (.getfield 13, 3) := by decide +kernel
theorem dX7_keep_8 : decode cX7_keep 8 = .ok (.invokestatic 268, 3) := by decide +kernel
theorem dX7_keep_11 : decode cX7_keep 11 = .ok (.aload_n 0, 1) := by decide +kernel
theorem dX7_keep_12 : decode cX7_keep 12 = .ok (.iconst 1, 1) := by decide +kernel
theorem dX7_keep_13 : decode cX7_keep 13 = .ok (.putfield 264, 3) := by decide +kernel
theorem dX7_keep_16 : decode cX7_keep 16 = .ok (.aload_n 0, 1) := by decide +kernel
theorem dX7_keep_17 : decode cX7_keep 17 = .ok (.getfield 9, 3) := by decide +kernel
theorem dX7_keep_20 : decode cX7_keep 20 = .ok (.iconst 1, 1) := by decide +kernel
theorem dX7_keep_21 : decode cX7_keep 21 = .ok (.iaload, 1) := by decide +kernel
theorem dX7_keep_22 : decode cX7_keep 22 = .ok (.ireturn, 1) := by decide +kernel
def wpX7_keep_0 (C : CT)    (V : Mem) (Q : Option AV → Mem → Prop) : Prop :=
  (cV C mX7_copyAll [aR 25 0, aR 26 0] V (fun V_1 => (∀ V_2 : Mem, V_2 = mu V_1 24 0 3 1 → Q (some (aI (V_2 25 0 1))) V_2)))
set_option maxRecDepth 10000 in
theorem okX7_keep_0 {d : Nat} {P : Option AV → Mem → Prop}      (V : Mem)  (h : wpX7_keep_0 (Cl UM d)    V P) : Gq (Kp (d + 1) mX7_keep UM P) UM cX7_keep 1 RX7 0 [(0, aR 24 0)] [] V := by
  unfold wpX7_keep_0 at h
  refine go_aload_n (q := 0) dX7_keep_0 rfl rfl ?_
  refine go_getr fg_X7_9 dX7_keep_1 (mM (by decide) (by decide) rfl) ?_
  refine go_aload_n (q := 0) dX7_keep_4 rfl rfl ?_
  refine go_getr fg_X7_13 dX7_keep_5 (mM (by decide) (by decide) rfl) ?_
  refine go_cSV (As := [aR 25 0, aR 26 0]) (st := []) ms_X7_copyAll dX7_keep_8 ml_X7_268 (hr_Kp (Nat.le_refl d)) rfl rfl (Nat.le_of_ble_eq_true rfl) h (fun V_1 h => ?_)
  refine go_aload_n (q := 0) dX7_keep_11 rfl rfl ?_
  refine go_iconst (v := 1) dX7_keep_12 (by decide) ?_
  refine go_putz fp_X7_264 dX7_keep_13 (mM (by decide) (by decide) rfl) (by decide) ?_
  refine nmV (fun V_2 e_V_2 => ?_)
  have h := h V_2 e_V_2
  refine go_aload_n (q := 0) dX7_keep_16 rfl rfl ?_
  refine go_getr fg_X7_9 dX7_keep_17 (mM (by decide) (by decide) rfl) ?_
  refine go_iconst (v := 1) dX7_keep_20 (by decide) ?_
  refine go_iald (r := 25) (n := 1479) (j := 1) rfl (by decide) dX7_keep_21 (mM (by decide) (by decide) rfl) (by decide) (by decide) ?_
  exact go_iret rfl dX7_keep_22 h
theorem clX7_keep {d : Nat} {P : Option AV → Mem → Prop}     (V : Mem)  (h : wpX7_keep_0 (Cl UM d)    V P) : Cl UM (d + 1) mX7_keep [aR 24 0] V P :=
  cl_of [(0, aR 24 0)] (by decide) (fun _ => Nat.le_of_ble_eq_true rfl) (fun _ => rfl) (okX7_keep_0    V  h)
theorem dX7_back_0 : decode cX7_back 0 = .ok (.aload_n 0, 1) := by decide +kernel
theorem dX7_back_1 : decode cX7_back 1 = .ok (.getfield 264, 3) := by decide +kernel
theorem dX7_back_4 : decode cX7_back 4 = .ok (.ifCond .ne 7, 3) := by decide +kernel
theorem dX7_back_7 : decode cX7_back 7 = .ok (.ldc_w 260, 3) := by decide +kernel
theorem dX7_back_10 : decode cX7_back 10 = .ok (.ireturn, 1) := by decide +kernel
theorem dX7_back_11 : decode cX7_back 11 = .ok (.aload_n 0, 1) := by decide +kernel
theorem dX7_back_12 : decode cX7_back 12 = .ok (.getfield 13, 3) := by decide +kernel
theorem dX7_back_15 : decode cX7_back 15 = .ok (.aload_n 0, 1) := by decide +kernel
theorem dX7_back_16 : decode cX7_back 16 = .ok (.getfield 9, 3) := by decide +kernel
theorem dX7_back_19 : decode cX7_back 19 = .ok (.invokestatic 268, 3) := by decide +kernel
theorem dX7_back_22 : decode cX7_back 22 = .ok (.aload_n 0, 1) := by decide +kernel
theorem dX7_back_23 : decode cX7_back 23 = .ok (.getfield 9, 3) := by decide +kernel
theorem dX7_back_26 : decode cX7_back 26 = .ok (.iconst 1, 1) := by decide +kernel
theorem dX7_back_27 : decode cX7_back 27 = .ok (.iaload, 1) := by decide +kernel
theorem dX7_back_28 : decode cX7_back 28 = .ok (.ireturn, 1) := by decide +kernel
def wpX7_back_0 (C : CT)    (V : Mem) (Q : Option AV → Mem → Prop) : Prop :=
  ((¬ (V 24 0 3) = 0 → (cV C mX7_copyAll [aR 26 0, aR 25 0] V (fun V_1 => Q (some (aI (V_1 25 0 1))) V_1))) ∧ ((V 24 0 3) = 0 → Q (some (aI (-1000000002))) V))
set_option maxRecDepth 10000 in
theorem okX7_back_0 {d : Nat} {P : Option AV → Mem → Prop}      (V : Mem)  (h : wpX7_back_0 (Cl UM d)    V P) : Gq (Kp (d + 1) mX7_back UM P) UM cX7_back 1 RX7 0 [(0, aR 24 0)] [] V := by
  unfold wpX7_back_0 at h
  refine go_aload_n (q := 0) dX7_back_0 rfl rfl ?_
  refine go_geti fg_X7_264 dX7_back_1 (mM (by decide) (by decide) rfl) ?_
  refine go_if_ne (tgt := 11) dX7_back_4 (by decide) (fun c_2 => ?_) (fun c_2 => ?_)
  · have h := h.1 c_2
    refine go_aload_n (q := 0) dX7_back_11 rfl rfl ?_
    refine go_getr fg_X7_13 dX7_back_12 (mM (by decide) (by decide) rfl) ?_
    refine go_aload_n (q := 0) dX7_back_15 rfl rfl ?_
    refine go_getr fg_X7_9 dX7_back_16 (mM (by decide) (by decide) rfl) ?_
    refine go_cSV (As := [aR 26 0, aR 25 0]) (st := []) ms_X7_copyAll dX7_back_19 ml_X7_268 (hr_Kp (Nat.le_refl d)) rfl rfl (Nat.le_of_ble_eq_true rfl) h (fun V_1 h => ?_)
    refine go_aload_n (q := 0) dX7_back_22 rfl rfl ?_
    refine go_getr fg_X7_9 dX7_back_23 (mM (by decide) (by decide) rfl) ?_
    refine go_iconst (v := 1) dX7_back_26 (by decide) ?_
    refine go_iald (r := 25) (n := 1479) (j := 1) rfl (by decide) dX7_back_27 (mM (by decide) (by decide) rfl) (by decide) (by decide) ?_
    exact go_iret rfl dX7_back_28 h
  · have h := h.2 c_2
    refine go_ldcw dX7_back_7 ct_X7_260 ?_
    exact go_iret rfl dX7_back_10 h
theorem clX7_back {d : Nat} {P : Option AV → Mem → Prop}     (V : Mem)  (h : wpX7_back_0 (Cl UM d)    V P) : Cl UM (d + 1) mX7_back [aR 24 0] V P :=
  cl_of [(0, aR 24 0)] (by decide) (fun _ => Nat.le_of_ble_eq_true rfl) (fun _ => rfl) (okX7_back_0    V  h)
theorem dX7_count_0 : decode cX7_count 0 = .ok (.iload_n 1, 1) := by decide +kernel
theorem dX7_count_1 : decode cX7_count 1 = .ok (.tableswitch 109 0 8 #[51, 58, 65, 72, 78, 84, 92, 97, 102], 51) := by decide +kernel
theorem dX7_count_52 : decode cX7_count 52 = .ok (.aload_n 0, 1) := by decide +kernel
theorem dX7_count_53 : decode cX7_count 53 = .ok (.getfield 9, 3) := by decide +kernel
theorem dX7_count_56 : decode cX7_count 56 = .ok (.iconst 1, 1) := by decide +kernel
theorem dX7_count_57 : decode cX7_count 57 = .ok (.iaload, 1) := by decide +kernel
theorem dX7_count_58 : decode cX7_count 58 = .ok (.ireturn, 1) := by decide +kernel
theorem dX7_count_59 : decode cX7_count 59 = .ok (.aload_n 0, 1) := by decide +kernel
theorem dX7_count_60 : decode cX7_count 60 = .ok (.getfield 9, 3) := by decide +kernel
theorem dX7_count_63 : decode cX7_count 63 = .ok (.iconst 2, 1) := by decide +kernel
theorem dX7_count_64 : decode cX7_count 64 = .ok (.iaload, 1) := by decide +kernel
theorem dX7_count_65 : decode cX7_count 65 = .ok (.ireturn, 1) := by decide +kernel
theorem dX7_count_66 : decode cX7_count 66 = .ok (.aload_n 0, 1) := by decide +kernel
theorem dX7_count_67 : decode cX7_count 67 = .ok (.getfield 9, 3) := by decide +kernel
theorem dX7_count_70 : decode cX7_count 70 = .ok (.iconst 3, 1) := by decide +kernel
theorem dX7_count_71 : decode cX7_count 71 = .ok (.iaload, 1) := by decide +kernel
theorem dX7_count_72 : decode cX7_count 72 = .ok (.ireturn, 1) := by decide +kernel
theorem dX7_count_73 : decode cX7_count 73 = .ok (.aload_n 0, 1) := by decide +kernel
theorem dX7_count_74 : decode cX7_count 74 = .ok (.iconst 4, 1) := by decide +kernel
theorem dX7_count_75 : decode cX7_count 75 = .ok (.invokevirtual 158, 3) := by decide +kernel
theorem dX7_count_78 : decode cX7_count 78 = .ok (.ireturn, 1) := by decide +kernel
theorem dX7_count_79 : decode cX7_count 79 = .ok (.aload_n 0, 1) := by decide +kernel
theorem dX7_count_80 : decode cX7_count 80 = .ok (.iconst 5, 1) := by decide +kernel
theorem dX7_count_81 : decode cX7_count 81 = .ok (.invokevirtual 158, 3) := by decide +kernel
theorem dX7_count_84 : decode cX7_count 84 = .ok (.ireturn, 1) := by decide +kernel
theorem dX7_count_85 : decode cX7_count 85 = .ok (.aload_n 0, 1) := by decide +kernel
theorem dX7_count_86 : decode cX7_count 86 = .ok (.getfield 9, 3) := by decide +kernel
theorem dX7_count_89 : decode cX7_count 89 = .ok (.bipush 10, 2) := by decide +kernel
theorem dX7_count_91 : decode cX7_count 91 = .ok (.iaload, 1) := by decide +kernel
theorem dX7_count_92 : decode cX7_count 92 = .ok (.ireturn, 1) := by decide +kernel
theorem dX7_count_93 : decode cX7_count 93 = .ok (.aload_n 0, 1) := by decide +kernel
theorem dX7_count_94 : decode cX7_count 94 = .ok (.getfield 261, 3) := by decide +kernel
theorem dX7_count_97 : decode cX7_count 97 = .ok (.ireturn, 1) := by decide +kernel
theorem dX7_count_98 : decode cX7_count 98 = .ok (.aload_n 0, 1) := by decide +kernel
theorem dX7_count_99 : decode cX7_count 99 = .ok (.getfield 185, 3) := by decide +kernel
theorem dX7_count_102 : decode cX7_count 102 = .ok (.ireturn, 1) := by decide +kernel
theorem dX7_count_103 : decode cX7_count 103 = .ok (.aload_n 0, 1) := by decide +kernel
theorem dX7_count_104 : decode cX7_count 104 = .ok (.getfield 9, 3) := by decide +kernel
theorem dX7_count_107 : decode cX7_count 107 = .ok (.iconst 0, 1) := by decide +kernel
theorem dX7_count_108 : decode cX7_count 108 = .ok (.iaload, 1) := by decide +kernel
theorem dX7_count_109 : decode cX7_count 109 = .ok (.ireturn, 1) := by decide +kernel
theorem dX7_count_110 : decode cX7_count 110 = .ok (.ldc 84, 2) := by decide +kernel
theorem dX7_count_112 : decode cX7_count 112 = .ok (.ireturn, 1) := by decide +kernel
def wpX7_count_0 (C : CT)   (x1 : Int32) (V : Mem) (Q : Option AV → Mem → Prop) : Prop :=
  ((x1 = 0 → Q (some (aI (V 25 0 1))) V) ∧ (x1 = 1 → Q (some (aI (V 25 0 2))) V) ∧ (x1 = 2 → Q (some (aI (V 25 0 3))) V) ∧ (x1 = 3 → (cI C mX7_sumOf [aR 24 0, aI 4] V (fun x_2 V_1 => Q (some (aI x_2)) V_1))) ∧ (x1 = 4 → (cI C mX7_sumOf [aR 24 0, aI 5] V (fun x_4 V_3 => Q (some (aI x_4)) V_3))) ∧ (x1 = 5 → Q (some (aI (V 25 0 10))) V) ∧ (x1 = 6 → Q (some (aI (V 24 0 32))) V) ∧ (x1 = 7 → Q (some (aI (V 24 0 6))) V) ∧ (x1 = 8 → Q (some (aI (V 25 0 0))) V) ∧ (¬ x1 = 0 ∧ ¬ x1 = 1 ∧ ¬ x1 = 2 ∧ ¬ x1 = 3 ∧ ¬ x1 = 4 ∧ ¬ x1 = 5 ∧ ¬ x1 = 6 ∧ ¬ x1 = 7 ∧ ¬ x1 = 8 → Q (some (aI (-1000000001))) V))
set_option maxRecDepth 10000 in
theorem okX7_count_0 {d : Nat} {P : Option AV → Mem → Prop}    (x1 : Int32)  (V : Mem)  (h : wpX7_count_0 (Cl UM d)   x1 V P) : Gq (Kp (d + 1) mX7_count UM P) UM cX7_count 2 RX7 0 [(0, aR 24 0), (1, aI x1)] [] V := by
  unfold wpX7_count_0 at h
  refine go_iload_n (q := 1) dX7_count_0 rfl rfl ?_
  by_cases c1_0 : x1 = 0
  · have h := h.1 c1_0
    refine go_tabC (z := 0) (off := 51) (tgt := 52) c1_0 dX7_count_1 (by decide) (by decide) rfl (by decide) ?_
    refine go_aload_n (q := 0) dX7_count_52 rfl rfl ?_
    refine go_getr fg_X7_9 dX7_count_53 (mM (by decide) (by decide) rfl) ?_
    refine go_iconst (v := 1) dX7_count_56 (by decide) ?_
    refine go_iald (r := 25) (n := 1479) (j := 1) rfl (by decide) dX7_count_57 (mM (by decide) (by decide) rfl) (by decide) (by decide) ?_
    exact go_iret rfl dX7_count_58 h
  by_cases c1_1 : x1 = 1
  · have h := h.2.1 c1_1
    refine go_tabC (z := 1) (off := 58) (tgt := 59) c1_1 dX7_count_1 (by decide) (by decide) rfl (by decide) ?_
    refine go_aload_n (q := 0) dX7_count_59 rfl rfl ?_
    refine go_getr fg_X7_9 dX7_count_60 (mM (by decide) (by decide) rfl) ?_
    refine go_iconst (v := 2) dX7_count_63 (by decide) ?_
    refine go_iald (r := 25) (n := 1479) (j := 2) rfl (by decide) dX7_count_64 (mM (by decide) (by decide) rfl) (by decide) (by decide) ?_
    exact go_iret rfl dX7_count_65 h
  by_cases c1_2 : x1 = 2
  · have h := h.2.2.1 c1_2
    refine go_tabC (z := 2) (off := 65) (tgt := 66) c1_2 dX7_count_1 (by decide) (by decide) rfl (by decide) ?_
    refine go_aload_n (q := 0) dX7_count_66 rfl rfl ?_
    refine go_getr fg_X7_9 dX7_count_67 (mM (by decide) (by decide) rfl) ?_
    refine go_iconst (v := 3) dX7_count_70 (by decide) ?_
    refine go_iald (r := 25) (n := 1479) (j := 3) rfl (by decide) dX7_count_71 (mM (by decide) (by decide) rfl) (by decide) (by decide) ?_
    exact go_iret rfl dX7_count_72 h
  by_cases c1_3 : x1 = 3
  · have h := h.2.2.2.1 c1_3
    refine go_tabC (z := 3) (off := 72) (tgt := 73) c1_3 dX7_count_1 (by decide) (by decide) rfl (by decide) ?_
    refine go_aload_n (q := 0) dX7_count_73 rfl rfl ?_
    refine go_iconst (v := 4) dX7_count_74 (by decide) ?_
    refine go_cVI (As := [aI 4]) (st := []) (r := 24) (i := 0) mv_X7_sumOf dX7_count_75 ml_X7_158 (hr_Kp (Nat.le_refl d)) rfl rfl (mM (by decide) (by decide) rfl) rfl rfl (Nat.le_of_ble_eq_true rfl) h (fun x_2 V_1 h => ?_)
    exact go_iret rfl dX7_count_78 h
  by_cases c1_4 : x1 = 4
  · have h := h.2.2.2.2.1 c1_4
    refine go_tabC (z := 4) (off := 78) (tgt := 79) c1_4 dX7_count_1 (by decide) (by decide) rfl (by decide) ?_
    refine go_aload_n (q := 0) dX7_count_79 rfl rfl ?_
    refine go_iconst (v := 5) dX7_count_80 (by decide) ?_
    refine go_cVI (As := [aI 5]) (st := []) (r := 24) (i := 0) mv_X7_sumOf dX7_count_81 ml_X7_158 (hr_Kp (Nat.le_refl d)) rfl rfl (mM (by decide) (by decide) rfl) rfl rfl (Nat.le_of_ble_eq_true rfl) h (fun x_4 V_3 h => ?_)
    exact go_iret rfl dX7_count_84 h
  by_cases c1_5 : x1 = 5
  · have h := h.2.2.2.2.2.1 c1_5
    refine go_tabC (z := 5) (off := 84) (tgt := 85) c1_5 dX7_count_1 (by decide) (by decide) rfl (by decide) ?_
    refine go_aload_n (q := 0) dX7_count_85 rfl rfl ?_
    refine go_getr fg_X7_9 dX7_count_86 (mM (by decide) (by decide) rfl) ?_
    refine go_bipush (v := 10) dX7_count_89 (by decide) ?_
    refine go_iald (r := 25) (n := 1479) (j := 10) rfl (by decide) dX7_count_91 (mM (by decide) (by decide) rfl) (by decide) (by decide) ?_
    exact go_iret rfl dX7_count_92 h
  by_cases c1_6 : x1 = 6
  · have h := h.2.2.2.2.2.2.1 c1_6
    refine go_tabC (z := 6) (off := 92) (tgt := 93) c1_6 dX7_count_1 (by decide) (by decide) rfl (by decide) ?_
    refine go_aload_n (q := 0) dX7_count_93 rfl rfl ?_
    refine go_geti fg_X7_261 dX7_count_94 (mM (by decide) (by decide) rfl) ?_
    exact go_iret rfl dX7_count_97 h
  by_cases c1_7 : x1 = 7
  · have h := h.2.2.2.2.2.2.2.1 c1_7
    refine go_tabC (z := 7) (off := 97) (tgt := 98) c1_7 dX7_count_1 (by decide) (by decide) rfl (by decide) ?_
    refine go_aload_n (q := 0) dX7_count_98 rfl rfl ?_
    refine go_geti fg_X7_185 dX7_count_99 (mM (by decide) (by decide) rfl) ?_
    exact go_iret rfl dX7_count_102 h
  by_cases c1_8 : x1 = 8
  · have h := h.2.2.2.2.2.2.2.2.1 c1_8
    refine go_tabC (z := 8) (off := 102) (tgt := 103) c1_8 dX7_count_1 (by decide) (by decide) rfl (by decide) ?_
    refine go_aload_n (q := 0) dX7_count_103 rfl rfl ?_
    refine go_getr fg_X7_9 dX7_count_104 (mM (by decide) (by decide) rfl) ?_
    refine go_iconst (v := 0) dX7_count_107 (by decide) ?_
    refine go_iald (r := 25) (n := 1479) (j := 0) rfl (by decide) dX7_count_108 (mM (by decide) (by decide) rfl) (by decide) (by decide) ?_
    exact go_iret rfl dX7_count_109 h
  have h := h.2.2.2.2.2.2.2.2.2 ⟨c1_0, c1_1, c1_2, c1_3, c1_4, c1_5, c1_6, c1_7, c1_8⟩
  have q_c1_0 := lv_neT c1_0 (show (0 : Int32).toInt = 0 from rfl)
  have q_c1_1 := lv_neT c1_1 (show (1 : Int32).toInt = 1 from rfl)
  have q_c1_2 := lv_neT c1_2 (show (2 : Int32).toInt = 2 from rfl)
  have q_c1_3 := lv_neT c1_3 (show (3 : Int32).toInt = 3 from rfl)
  have q_c1_4 := lv_neT c1_4 (show (4 : Int32).toInt = 4 from rfl)
  have q_c1_5 := lv_neT c1_5 (show (5 : Int32).toInt = 5 from rfl)
  have q_c1_6 := lv_neT c1_6 (show (6 : Int32).toInt = 6 from rfl)
  have q_c1_7 := lv_neT c1_7 (show (7 : Int32).toInt = 7 from rfl)
  have q_c1_8 := lv_neT c1_8 (show (8 : Int32).toInt = 8 from rfl)
  refine go_tabOut (tgt := 110) dX7_count_1 (by omega) (by decide) ?_
  refine go_ldc dX7_count_110 ct_X7_84 ?_
  exact go_iret rfl dX7_count_112 h
theorem clX7_count {d : Nat} {P : Option AV → Mem → Prop}    (x1 : Int32) (V : Mem)  (h : wpX7_count_0 (Cl UM d)   x1 V P) : Cl UM (d + 1) mX7_count [aR 24 0, aI x1] V P :=
  cl_of [(0, aR 24 0), (1, aI x1)] (by decide) (fun _ => Nat.le_of_ble_eq_true rfl) (fun _ => rfl) (okX7_count_0   x1 V  h)
