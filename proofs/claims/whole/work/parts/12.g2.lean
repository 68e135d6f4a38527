theorem dX6_roof_0 : decode cX6_roof 0 = .ok (.iload_n 1, 1) := by decide +kernel
theorem dX6_roof_1 : decode cX6_roof 1 = .ok (.invokestatic 75, 3) := by decide +kernel
theorem dX6_roof_4 : decode cX6_roof 4 = .ok (.ifCond .eq 13, 3) := by decide +kernel
theorem dX6_roof_7 : decode cX6_roof 7 = .ok (.iload_n 2, 1) := by decide +kernel
theorem dX6_roof_8 : decode cX6_roof 8 = .ok (.iconst 1, 1) := by decide +kernel
theorem dX6_roof_9 : decode cX6_roof 9 = .ok (.bipush 9, 2) := by decide +kernel
theorem dX6_roof_11 : decode cX6_roof 11 = .ok (.invokestatic 79, 3) := by decide +kernel
theorem dX6_roof_14 : decode cX6_roof 14 = .ok (.ifCond .ne 6, 3) := by decide +kernel
theorem dX6_roof_17 : decode cX6_roof 17 = .ok (.ldc 83, 2) := by decide +kernel
theorem dX6_roof_19 : decode cX6_roof 19 = .ok (.ireturn, 1) := by decide +kernel
theorem dX6_roof_20 : decode cX6_roof 20 = .ok (.aload_n 0, 1) := by decide +kernel
theorem dX6_roof_21 : decode cX6_roof 21 = .ok (.getfield 21, 3) := by decide +kernel
theorem dX6_roof_24 : decode cX6_roof 24 = .ok (.getfield 84, 3) := by decide +kernel
theorem dX6_roof_27 : decode cX6_roof 27 = .ok (.bipush 8, 2) := by decide +kernel
theorem dX6_roof_29 : decode cX6_roof 29 = .ok (.if_icmp .lt 6, 3) := by decide +kernel
theorem dX6_roof_32 : decode cX6_roof 32 = .ok (.ldc 87, 2) := by decide +kernel
theorem dX6_roof_34 : decode cX6_roof 34 = .ok (.ireturn, 1) := by decide +kernel
theorem dX6_roof_35 : decode cX6_roof 35 = .ok (.aload_n 0, 1) := by decide +kernel
theorem dX6_roof_36 : decode cX6_roof 36 = .ok (.getfield 21, 3) := by decide +kernel
theorem dX6_roof_39 : decode cX6_roof 39 = .ok (.iload_n 1, 1) := by decide +kernel
theorem dX6_roof_40 : decode cX6_roof 40 = .ok (.iload_n 2, 1) := by decide +kernel
theorem dX6_roof_41 : decode cX6_roof 41 = .ok (.invokevirtual 88, 3) := by decide +kernel
theorem dX6_roof_44 : decode cX6_roof 44 = .ok (.ireturn, 1) := by decide +kernel
def wpX6_roof_0 (C : CT)   (x1 : Int32) (x2 : Int32) (V : Mem) (Q : Option AV → Mem → Prop) : Prop :=
  (cI C mX6_isKind [aI x1] V (fun x_2 V_1 => ((x_2 = 0 → Q (some (aI (-1000000001))) V_1) ∧ (¬ x_2 = 0 → (cI C mX6_isWithin [aI x2, aI 1, aI 9] V_1 (fun x_4 V_3 => ((¬ x_4 = 0 → (((V_3 2 0 6) < 8 → (cI C mX5_addRoof [aR 2 0, aI x1, aI x2] V_3 (fun x_6 V_5 => Q (some (aI x_6)) V_5))) ∧ (¬ (V_3 2 0 6) < 8 → Q (some (aI (-1000000003))) V_3))) ∧ (x_4 = 0 → Q (some (aI (-1000000001))) V_3))))))))
set_option maxRecDepth 10000 in
theorem okX6_roof_0 {d : Nat} {P : Option AV → Mem → Prop}    (x1 : Int32) (x2 : Int32)  (V : Mem)  (h : wpX6_roof_0 (Cl UX d)   x1 x2 V P) : Gq (Kp (d + 1) mX6_roof UX P) UX cX6_roof 3 RX6 0 [(0, aR 0 0), (1, aI x1), (2, aI x2)] [] V := by
  unfold wpX6_roof_0 at h
  refine go_iload_n (q := 1) dX6_roof_0 rfl rfl ?_
  refine go_cSI (As := [aI x1]) (st := []) ms_X6_isKind dX6_roof_1 ml_X6_75 (hr_Kp (Nat.le_refl d)) rfl rfl (Nat.le_of_ble_eq_true rfl) h (fun x_2 V_1 h => ?_)
  refine go_if_eq (tgt := 17) dX6_roof_4 (by decide) (fun c_9 => ?_) (fun c_9 => ?_)
  · have h := h.1 c_9
    refine go_ldc dX6_roof_17 ct_X6_83 ?_
    exact go_iret rfl dX6_roof_19 h
  · have h := h.2 c_9
    refine go_iload_n (q := 2) dX6_roof_7 rfl rfl ?_
    refine go_iconst (v := 1) dX6_roof_8 (by decide) ?_
    refine go_bipush (v := 9) dX6_roof_9 (by decide) ?_
    refine go_cSI (As := [aI x2, aI 1, aI 9]) (st := []) ms_X6_isWithin dX6_roof_11 ml_X6_79 (hr_Kp (Nat.le_refl d)) rfl rfl (Nat.le_of_ble_eq_true rfl) h (fun x_4 V_3 h => ?_)
    refine go_if_ne (tgt := 20) dX6_roof_14 (by decide) (fun c_8 => ?_) (fun c_8 => ?_)
    · have h := h.1 c_8
      refine go_aload_n (q := 0) dX6_roof_20 rfl rfl ?_
      refine go_getr fg_X6_21 dX6_roof_21 (mX (n := 1) (by decide) rfl (by omega)) ?_
      refine go_geti fg_X6_84 dX6_roof_24 (mX (n := 3) (by decide) rfl (by omega)) ?_
      refine go_bipush (v := 8) dX6_roof_27 (by decide) ?_
      refine go_icmp_lt (tgt := 35) dX6_roof_29 (by decide) (fun c_7 => ?_) (fun c_7 => ?_)
      · have h := h.1 c_7
        refine go_aload_n (q := 0) dX6_roof_35 rfl rfl ?_
        refine go_getr fg_X6_21 dX6_roof_36 (mX (n := 1) (by decide) rfl (by omega)) ?_
        refine go_iload_n (q := 1) dX6_roof_39 rfl rfl ?_
        refine go_iload_n (q := 2) dX6_roof_40 rfl rfl ?_
        refine go_cVI (As := [aI x1, aI x2]) (st := []) (r := 2) (i := 0) mv_X5_addRoof dX6_roof_41 ml_X6_88 (hr_Kp (Nat.le_refl d)) rfl rfl (mX (n := 3) (by decide) rfl (by omega)) rfl rfl (Nat.le_of_ble_eq_true rfl) h (fun x_6 V_5 h => ?_)
        exact go_iret rfl dX6_roof_44 h
      · have h := h.2 c_7
        refine go_ldc dX6_roof_32 ct_X6_87 ?_
        exact go_iret rfl dX6_roof_34 h
    · have h := h.2 c_8
      refine go_ldc dX6_roof_17 ct_X6_83 ?_
      exact go_iret rfl dX6_roof_19 h
theorem clX6_roof {d : Nat} {P : Option AV → Mem → Prop}    (x1 : Int32) (x2 : Int32) (V : Mem)  (h : wpX6_roof_0 (Cl UX d)   x1 x2 V P) : Cl UX (d + 1) mX6_roof [aR 0 0, aI x1, aI x2] V P :=
  cl_of [(0, aR 0 0), (1, aI x1), (2, aI x2)] (by decide) (fun _ => Nat.le_of_ble_eq_true rfl) (fun _ => rfl) (okX6_roof_0   x1 x2 V  h)
theorem dX6_told_0 : decode cX6_told 0 = .ok (.aload_n 0, 1) := by decide +kernel
theorem dX6_told_1 : decode cX6_told 1 = .ok (.iload_n 1, 1) := by decide +kernel
theorem dX6_told_2 : decode cX6_told 2 = .ok (.invokevirtual 92, 3) := by decide +kernel
theorem dX6_told_5 : decode cX6_told 5 = .ok (.ifCond .ne 6, 3) := by decide +kernel
theorem dX6_told_8 : decode cX6_told 8 = .ok (.ldc 83, 2) := by decide +kernel
theorem dX6_told_10 : decode cX6_told 10 = .ok (.ireturn, 1) := by decide +kernel
theorem dX6_told_11 : decode cX6_told 11 = .ok (.aload_n 0, 1) := by decide +kernel
theorem dX6_told_12 : decode cX6_told 12 = .ok (.getfield 21, 3) := by decide +kernel
theorem dX6_told_15 : decode cX6_told 15 = .ok (.getfield 95, 3) := by decide +kernel
theorem dX6_told_18 : decode cX6_told 18 = .ok (.iload_n 1, 1) := by decide +kernel
theorem dX6_told_19 : decode cX6_told 19 = .ok (.aaload, 1) := by decide +kernel
theorem dX6_told_20 : decode cX6_told 20 = .ok (.astore_n 3, 1) := by decide +kernel
theorem dX6_told_21 : decode cX6_told 21 = .ok (.iload_n 2, 1) := by decide +kernel
theorem dX6_told_22 : decode cX6_told 22 = .ok (.tableswitch 133 0 10 #[58, 63, 68, 73, 78, 83, 88, 97, 106, 111, 128], 58) := by decide +kernel
theorem dX6_told_80 : decode cX6_told 80 = .ok (.aload_n 3, 1) := by decide +kernel
theorem dX6_told_81 : decode cX6_told 81 = .ok (.getfield 99, 3) := by decide +kernel
theorem dX6_told_84 : decode cX6_told 84 = .ok (.ireturn, 1) := by decide +kernel
theorem dX6_told_85 : decode cX6_told 85 = .ok (.aload_n 3, 1) := by decide +kernel
theorem dX6_told_86 : decode cX6_told 86 = .ok (.getfield 104, 3) := by decide +kernel
theorem dX6_told_89 : decode cX6_told 89 = .ok (.ireturn, 1) := by decide +kernel
theorem dX6_told_90 : decode cX6_told 90 = .ok (.aload_n 3, 1) := by decide +kernel
theorem dX6_told_91 : decode cX6_told 91 = .ok (.getfield 107, 3) := by decide +kernel
theorem dX6_told_94 : decode cX6_told 94 = .ok (.ireturn, 1) := by decide +kernel
theorem dX6_told_95 : decode cX6_told 95 = .ok (.aload_n 3, 1) := by decide +kernel
theorem dX6_told_96 : decode cX6_told 96 = .ok (.getfield 110, 3) := by decide +kernel
theorem dX6_told_99 : decode cX6_told 99 = .ok (.ireturn, 1) := by decide +kernel
theorem dX6_told_100 : decode cX6_told 100 = .ok (.aload_n 3, 1) := by decide +kernel
theorem dX6_told_101 : decode cX6_told 101 = .ok (.getfield 113, 3) := by decide +kernel
theorem dX6_told_104 : decode cX6_told 104 = .ok (.ireturn, 1) := by decide +kernel
theorem dX6_told_105 : decode cX6_told 105 = .ok (.aload_n 3, 1) := by decide +kernel
theorem dX6_told_106 : decode cX6_told 106 = .ok (.getfield 116, 3) := by decide +kernel
theorem dX6_told_109 : decode cX6_told 109 = .ok (.ireturn, 1) := by decide +kernel
theorem dX6_told_110 : decode cX6_told 110 = .ok (.aload_n 0, 1) := by decide +kernel
theorem dX6_told_111 : decode cX6_told 111 = .ok (.getfield 21, 3) := by decide +kernel
theorem dX6_told_114 : decode cX6_told 114 = .ok (.aload_n 3, 1) := by decide +kernel
theorem dX6_told_115 : decode cX6_told 115 = .ok (.invokevirtual 119, 3) := by decide +kernel
theorem dX6_told_118 : decode cX6_told 118 = .ok (.ireturn, 1) := by decide +kernel
theorem dX6_told_119 : decode cX6_told 119 = .ok (.aload_n 0, 1) := by decide +kernel
theorem dX6_told_120 : decode cX6_told 120 = .ok (.getfield 21, 3) := by decide +kernel
theorem dX6_told_123 : decode cX6_told 123 = .ok (.aload_n 3, 1) := by decide +kernel
theorem dX6_told_124 : decode cX6_told 124 = .ok (.invokevirtual 123, 3) := by decide +kernel
theorem dX6_told_127 : decode cX6_told 127 = .ok (.ireturn, 1) := by decide +kernel
theorem dX6_told_128 : decode cX6_told 128 = .ok (.aload_n 3, 1) := by decide +kernel
theorem dX6_told_129 : decode cX6_told 129 = .ok (.invokevirtual 126, 3) := by decide +kernel
theorem dX6_told_132 : decode cX6_told 132 = .ok (.ireturn, 1) := by decide +kernel
theorem dX6_told_133 : decode cX6_told 133 = .ok (.aload_n 0, 1) := by decide +kernel
theorem dX6_told_134 : decode cX6_told 134 = .ok (.getfield 21, 3) := by decide +kernel
theorem dX6_told_137 : decode cX6_told 137 = .ok (.aload_n 3, 1) := by decide +kernel
theorem dX6_told_138 : decode cX6_told 138 = .ok (.invokevirtual 130, 3) := by decide +kernel
theorem dX6_told_141 : decode cX6_told 141 = .ok (.ifCond .eq 7, 3) := by decide +kernel
theorem dX6_told_144 : decode cX6_told 144 = .ok (.iconst 1, 1) := by decide +kernel
theorem dX6_told_145 : decode cX6_told 145 = .ok (.goto 4, 3) := by decide +kernel
theorem dX6_told_148 : decode cX6_told 148 = .ok (.iconst 0, 1) := by decide +kernel
theorem dX6_told_149 : decode cX6_told 149 = .ok (.ireturn, 1) := by decide +kernel
theorem dX6_told_150 : decode cX6_told 150 = .ok (.aload_n 3, 1) := by decide +kernel
theorem dX6_told_151 : decode cX6_told 151 = .ok (.invokevirtual 134, 3) := by decide +kernel
theorem dX6_told_154 : decode cX6_told 154 = .ok (.ireturn, 1) := by decide +kernel
theorem dX6_told_155 : decode cX6_told 155 = .ok (.ldc 83, 2) := by decide +kernel
theorem dX6_told_157 : decode cX6_told 157 = .ok (.ireturn, 1) := by decide +kernel
def wpX6_told_0 (C : CT)   (x1 : Int32) (x2 : Int32) (V : Mem) (Q : Option AV → Mem → Prop) : Prop :=
  (cI C mX6_isRoof [aR 0 0, aI x1] V (fun x_2 V_1 => ((¬ x_2 = 0 → (∃ j_3 : Nat, x1 = nI j_3 ∧ j_3 < 8 ∧ ((x2 = 0 → Q (some (aI (V_1 3 (8 * 0 + j_3) 0))) V_1) ∧ (x2 = 1 → Q (some (aI (V_1 3 (8 * 0 + j_3) 1))) V_1) ∧ (x2 = 2 → Q (some (aI (V_1 3 (8 * 0 + j_3) 2))) V_1) ∧ (x2 = 3 → Q (some (aI (V_1 3 (8 * 0 + j_3) 3))) V_1) ∧ (x2 = 4 → Q (some (aI (V_1 3 (8 * 0 + j_3) 4))) V_1) ∧ (x2 = 5 → Q (some (aI (V_1 3 (8 * 0 + j_3) 5))) V_1) ∧ (x2 = 6 → (cI C mX5_warmth [aR 2 0, aR 3 (8 * 0 + j_3)] V_1 (fun x_5 V_4 => Q (some (aI x_5)) V_4))) ∧ (x2 = 7 → (cI C mX5_melts [aR 2 0, aR 3 (8 * 0 + j_3)] V_1 (fun x_7 V_6 => Q (some (aI x_7)) V_6))) ∧ (x2 = 8 → (cI C mX2_bears [aR 3 (8 * 0 + j_3)] V_1 (fun x_9 V_8 => Q (some (aI x_9)) V_8))) ∧ (x2 = 9 → (cI C mX5_owns [aR 2 0, aR 3 (8 * 0 + j_3)] V_1 (fun x_11 V_10 => ((x_11 = 0 → Q (some (aI 0)) V_10) ∧ (¬ x_11 = 0 → Q (some (aI 1)) V_10))))) ∧ (x2 = 10 → (cI C mX2_worth [aR 3 (8 * 0 + j_3)] V_1 (fun x_14 V_13 => Q (some (aI x_14)) V_13))) ∧ (¬ x2 = 0 ∧ ¬ x2 = 1 ∧ ¬ x2 = 2 ∧ ¬ x2 = 3 ∧ ¬ x2 = 4 ∧ ¬ x2 = 5 ∧ ¬ x2 = 6 ∧ ¬ x2 = 7 ∧ ¬ x2 = 8 ∧ ¬ x2 = 9 ∧ ¬ x2 = 10 → Q (some (aI (-1000000001))) V_1)))) ∧ (x_2 = 0 → Q (some (aI (-1000000001))) V_1))))
set_option maxRecDepth 10000 in
theorem okX6_told_0 {d : Nat} {P : Option AV → Mem → Prop}    (x1 : Int32) (x2 : Int32)  (V : Mem)  (h : wpX6_told_0 (Cl UX d)   x1 x2 V P) : Gq (Kp (d + 1) mX6_told UX P) UX cX6_told 4 RX6 0 [(0, aR 0 0), (1, aI x1), (2, aI x2)] [] V := by
  unfold wpX6_told_0 at h
  refine go_aload_n (q := 0) dX6_told_0 rfl rfl ?_
  refine go_iload_n (q := 1) dX6_told_1 rfl rfl ?_
  refine go_cVI (As := [aI x1]) (st := []) (r := 0) (i := 0) mv_X6_isRoof dX6_told_2 ml_X6_92 (hr_Kp (Nat.le_refl d)) rfl rfl (mX (n := 1) (by decide) rfl (by omega)) rfl rfl (Nat.le_of_ble_eq_true rfl) h (fun x_2 V_1 h => ?_)
  refine go_if_ne (tgt := 11) dX6_told_5 (by decide) (fun c_15 => ?_) (fun c_15 => ?_)
  · have h := h.1 c_15
    refine go_aload_n (q := 0) dX6_told_11 rfl rfl ?_
    refine go_getr fg_X6_21 dX6_told_12 (mX (n := 1) (by decide) rfl (by omega)) ?_
    refine go_getr fg_X6_95 dX6_told_15 (mX (n := 3) (by decide) rfl (by omega)) ?_
    refine go_iload_n (q := 1) dX6_told_18 rfl rfl ?_
    obtain ⟨j_3, e_j_3, l_j_3, h⟩ := h
    refine go_aald (r := 13) (n := 8) (j := j_3) rfl rfl (by decide) dX6_told_19 (mX (n := 3) (by decide) rfl (by omega)) e_j_3 l_j_3 ?_
    refine go_astore_n (al1 := [(3, aR 3 (8 * 0 + j_3)), (0, aR 0 0), (1, aI x1), (2, aI x2)]) dX6_told_20 rfl (by decide) rfl ?_
    refine go_iload_n (q := 3) dX6_told_21 rfl rfl ?_
    by_cases c22_0 : x2 = 0
    · have h := h.1 c22_0
      refine go_tabC (z := 0) (off := 58) (tgt := 80) c22_0 dX6_told_22 (by decide) (by decide) rfl (by decide) ?_
      refine go_aload_n (q := 0) dX6_told_80 rfl rfl ?_
      refine go_geti fg_X6_99 dX6_told_81 (mX (n := 29) (by decide) rfl (by omega)) ?_
      exact go_iret rfl dX6_told_84 h
    by_cases c22_1 : x2 = 1
    · have h := h.2.1 c22_1
      refine go_tabC (z := 1) (off := 63) (tgt := 85) c22_1 dX6_told_22 (by decide) (by decide) rfl (by decide) ?_
      refine go_aload_n (q := 0) dX6_told_85 rfl rfl ?_
      refine go_geti fg_X6_104 dX6_told_86 (mX (n := 29) (by decide) rfl (by omega)) ?_
      exact go_iret rfl dX6_told_89 h
    by_cases c22_2 : x2 = 2
    · have h := h.2.2.1 c22_2
      refine go_tabC (z := 2) (off := 68) (tgt := 90) c22_2 dX6_told_22 (by decide) (by decide) rfl (by decide) ?_
      refine go_aload_n (q := 0) dX6_told_90 rfl rfl ?_
      refine go_geti fg_X6_107 dX6_told_91 (mX (n := 29) (by decide) rfl (by omega)) ?_
      exact go_iret rfl dX6_told_94 h
    by_cases c22_3 : x2 = 3
    · have h := h.2.2.2.1 c22_3
      refine go_tabC (z := 3) (off := 73) (tgt := 95) c22_3 dX6_told_22 (by decide) (by decide) rfl (by decide) ?_
      refine go_aload_n (q := 0) dX6_told_95 rfl rfl ?_
      refine go_geti fg_X6_110 dX6_told_96 (mX (n := 29) (by decide) rfl (by omega)) ?_
      exact go_iret rfl dX6_told_99 h
    by_cases c22_4 : x2 = 4
    · have h := h.2.2.2.2.1 c22_4
      refine go_tabC (z := 4) (off := 78) (tgt := 100) c22_4 dX6_told_22 (by decide) (by decide) rfl (by decide) ?_
      refine go_aload_n (q := 0) dX6_told_100 rfl rfl ?_
      refine go_geti fg_X6_113 dX6_told_101 (mX (n := 29) (by decide) rfl (by omega)) ?_
      exact go_iret rfl dX6_told_104 h
    by_cases c22_5 : x2 = 5
    · have h := h.2.2.2.2.2.1 c22_5
      refine go_tabC (z := 5) (off := 83) (tgt := 105) c22_5 dX6_told_22 (by decide) (by decide) rfl (by decide) ?_
      refine go_aload_n (q := 0) dX6_told_105 rfl rfl ?_
      refine go_geti fg_X6_116 dX6_told_106 (mX (n := 29) (by decide) rfl (by omega)) ?_
      exact go_iret rfl dX6_told_109 h
    by_cases c22_6 : x2 = 6
    · have h := h.2.2.2.2.2.2.1 c22_6
      refine go_tabC (z := 6) (off := 88) (tgt := 110) c22_6 dX6_told_22 (by decide) (by decide) rfl (by decide) ?_
      refine go_aload_n (q := 1) dX6_told_110 rfl rfl ?_
      refine go_getr fg_X6_21 dX6_told_111 (mX (n := 1) (by decide) rfl (by omega)) ?_
      refine go_aload_n (q := 0) dX6_told_114 rfl rfl ?_
      refine go_cVI (As := [aR 3 (8 * 0 + j_3)]) (st := []) (r := 2) (i := 0) mv_X5_warmth dX6_told_115 ml_X6_119 (hr_Kp (Nat.le_refl d)) rfl rfl (mX (n := 3) (by decide) rfl (by omega)) rfl rfl (Nat.le_of_ble_eq_true rfl) h (fun x_5 V_4 h => ?_)
      exact go_iret rfl dX6_told_118 h
    by_cases c22_7 : x2 = 7
    · have h := h.2.2.2.2.2.2.2.1 c22_7
      refine go_tabC (z := 7) (off := 97) (tgt := 119) c22_7 dX6_told_22 (by decide) (by decide) rfl (by decide) ?_
      refine go_aload_n (q := 1) dX6_told_119 rfl rfl ?_
      refine go_getr fg_X6_21 dX6_told_120 (mX (n := 1) (by decide) rfl (by omega)) ?_
      refine go_aload_n (q := 0) dX6_told_123 rfl rfl ?_
      refine go_cVI (As := [aR 3 (8 * 0 + j_3)]) (st := []) (r := 2) (i := 0) mv_X5_melts dX6_told_124 ml_X6_123 (hr_Kp (Nat.le_refl d)) rfl rfl (mX (n := 3) (by decide) rfl (by omega)) rfl rfl (Nat.le_of_ble_eq_true rfl) h (fun x_7 V_6 h => ?_)
      exact go_iret rfl dX6_told_127 h
    by_cases c22_8 : x2 = 8
    · have h := h.2.2.2.2.2.2.2.2.1 c22_8
      refine go_tabC (z := 8) (off := 106) (tgt := 128) c22_8 dX6_told_22 (by decide) (by decide) rfl (by decide) ?_
      refine go_aload_n (q := 0) dX6_told_128 rfl rfl ?_
      refine go_cVI (As := []) (st := []) (r := 3) (i := (8 * 0 + j_3)) mv_X2_bears dX6_told_129 ml_X6_126 (hr_Kp (Nat.le_refl d)) rfl rfl (mX (n := 29) (by decide) rfl (by omega)) rfl rfl (Nat.le_of_ble_eq_true rfl) h (fun x_9 V_8 h => ?_)
      exact go_iret rfl dX6_told_132 h
    by_cases c22_9 : x2 = 9
    · have h := h.2.2.2.2.2.2.2.2.2.1 c22_9
      refine go_tabC (z := 9) (off := 111) (tgt := 133) c22_9 dX6_told_22 (by decide) (by decide) rfl (by decide) ?_
      refine go_aload_n (q := 1) dX6_told_133 rfl rfl ?_
      refine go_getr fg_X6_21 dX6_told_134 (mX (n := 1) (by decide) rfl (by omega)) ?_
      refine go_aload_n (q := 0) dX6_told_137 rfl rfl ?_
      refine go_cVI (As := [aR 3 (8 * 0 + j_3)]) (st := []) (r := 2) (i := 0) mv_X5_owns dX6_told_138 ml_X6_130 (hr_Kp (Nat.le_refl d)) rfl rfl (mX (n := 3) (by decide) rfl (by omega)) rfl rfl (Nat.le_of_ble_eq_true rfl) h (fun x_11 V_10 h => ?_)
      refine go_if_eq (tgt := 148) dX6_told_141 (by decide) (fun c_12 => ?_) (fun c_12 => ?_)
      · have h := h.1 c_12
        refine go_iconst (v := 0) dX6_told_148 (by decide) ?_
        exact go_iret rfl dX6_told_149 h
      · have h := h.2 c_12
        refine go_iconst (v := 1) dX6_told_144 (by decide) ?_
        refine go_goto (tgt := 149) dX6_told_145 (by decide) ?_
        exact go_iret rfl dX6_told_149 h
    by_cases c22_10 : x2 = 10
    · have h := h.2.2.2.2.2.2.2.2.2.2.1 c22_10
      refine go_tabC (z := 10) (off := 128) (tgt := 150) c22_10 dX6_told_22 (by decide) (by decide) rfl (by decide) ?_
      refine go_aload_n (q := 0) dX6_told_150 rfl rfl ?_
      refine go_cVI (As := []) (st := []) (r := 3) (i := (8 * 0 + j_3)) mv_X2_worth dX6_told_151 ml_X6_134 (hr_Kp (Nat.le_refl d)) rfl rfl (mX (n := 29) (by decide) rfl (by omega)) rfl rfl (Nat.le_of_ble_eq_true rfl) h (fun x_14 V_13 h => ?_)
      exact go_iret rfl dX6_told_154 h
    have h := h.2.2.2.2.2.2.2.2.2.2.2 ⟨c22_0, c22_1, c22_2, c22_3, c22_4, c22_5, c22_6, c22_7, c22_8, c22_9, c22_10⟩
    have q_c22_0 := lv_neT c22_0 (show (0 : Int32).toInt = 0 from rfl)
    have q_c22_1 := lv_neT c22_1 (show (1 : Int32).toInt = 1 from rfl)
    have q_c22_2 := lv_neT c22_2 (show (2 : Int32).toInt = 2 from rfl)
    have q_c22_3 := lv_neT c22_3 (show (3 : Int32).toInt = 3 from rfl)
    have q_c22_4 := lv_neT c22_4 (show (4 : Int32).toInt = 4 from rfl)
    have q_c22_5 := lv_neT c22_5 (show (5 : Int32).toInt = 5 from rfl)
    have q_c22_6 := lv_neT c22_6 (show (6 : Int32).toInt = 6 from rfl)
    have q_c22_7 := lv_neT c22_7 (show (7 : Int32).toInt = 7 from rfl)
    have q_c22_8 := lv_neT c22_8 (show (8 : Int32).toInt = 8 from rfl)
    have q_c22_9 := lv_neT c22_9 (show (9 : Int32).toInt = 9 from rfl)
    have q_c22_10 := lv_neT c22_10 (show (10 : Int32).toInt = 10 from rfl)
    refine go_tabOut (tgt := 155) dX6_told_22 (by omega) (by decide) ?_
    refine go_ldc dX6_told_155 ct_X6_83 ?_
    exact go_iret rfl dX6_told_157 h
  · have h := h.2 c_15
    refine go_ldc dX6_told_8 ct_X6_83 ?_
    exact go_iret rfl dX6_told_10 h
theorem clX6_told {d : Nat} {P : Option AV → Mem → Prop}    (x1 : Int32) (x2 : Int32) (V : Mem)  (h : wpX6_told_0 (Cl UX d)   x1 x2 V P) : Cl UX (d + 1) mX6_told [aR 0 0, aI x1, aI x2] V P :=
  cl_of [(0, aR 0 0), (1, aI x1), (2, aI x2)] (by decide) (fun _ => Nat.le_of_ble_eq_true rfl) (fun _ => rfl) (okX6_told_0   x1 x2 V  h)
theorem dX6_as_0 : decode cX6_as 0 = .ok (.aload_n 0, 1) := by decide +kernel
theorem dX6_as_1 : decode cX6_as 1 = .ok (.iload_n 1, 1) := by decide +kernel
theorem dX6_as_2 : decode cX6_as 2 = .ok (.invokevirtual 92, 3) := by decide +kernel
theorem dX6_as_5 : decode cX6_as 5 = .ok (.ifCond .eq 10, 3) := by decide +kernel
theorem dX6_as_8 : decode cX6_as 8 = .ok (.iload_n 2, 1) := by decide +kernel
theorem dX6_as_9 : decode cX6_as 9 = .ok (.invokestatic 75, 3) := by decide +kernel
theorem dX6_as_12 : decode cX6_as 12 = .ok (.ifCond .ne 6, 3) := by decide +kernel
theorem dX6_as_15 : decode cX6_as 15 = .ok (.ldc 83, 2) := by decide +kernel
theorem dX6_as_17 : decode cX6_as 17 = .ok (.ireturn, 1) := by decide +kernel
theorem dX6_as_18 : decode cX6_as 18 = .ok (.aload_n 0, 1) := by decide +kernel
theorem dX6_as_19 : decode cX6_as 19 = .ok (.getfield 21, 3) := by decide +kernel
theorem dX6_as_22 : decode cX6_as 22 = .ok (.getfield 95, 3) := by decide +kernel
theorem dX6_as_25 : decode cX6_as 25 = .ok (.iload_n 1, 1) := by decide +kernel
theorem dX6_as_26 : decode cX6_as 26 = .ok (.aaload, 1) := by decide +kernel
theorem dX6_as_27 : decode cX6_as 27 = .ok (.astore_n 3, 1) := by decide +kernel
theorem dX6_as_28 : decode cX6_as 28 = .ok (.aload_n 3, 1) := by decide +kernel
theorem dX6_as_29 : decode cX6_as 29 = .ok (.iload_n 2, 1) := by decide +kernel
theorem dX6_as_30 : decode cX6_as 30 = .ok (.invokevirtual 137, 3) := by decide +kernel
theorem dX6_as_33 : decode cX6_as 33 = .ok (.ifCond .eq 10, 3) := by decide +kernel
theorem dX6_as_36 : decode cX6_as 36 = .ok (.aload_n 3, 1) := by decide +kernel
theorem dX6_as_37 : decode cX6_as 37 = .ok (.getfield 104, 3) := by decide +kernel
theorem dX6_as_40 : decode cX6_as 40 = .ok (.goto 5, 3) := by decide +kernel
theorem dX6_as_43 : decode cX6_as 43 = .ok (.ldc 140, 2) := by decide +kernel
theorem dX6_as_45 : decode cX6_as 45 = .ok (.ireturn, 1) := by decide +kernel
def wpX6_as_0 (C : CT)   (x1 : Int32) (x2 : Int32) (V : Mem) (Q : Option AV → Mem → Prop) : Prop :=
  (cI C mX6_isRoof [aR 0 0, aI x1] V (fun x_2 V_1 => ((x_2 = 0 → Q (some (aI (-1000000001))) V_1) ∧ (¬ x_2 = 0 → (cI C mX6_isKind [aI x2] V_1 (fun x_4 V_3 => ((¬ x_4 = 0 → (∃ j_5 : Nat, x1 = nI j_5 ∧ j_5 < 8 ∧ (cI C mX2_isOf [aR 3 (8 * 0 + j_5), aI x2] V_3 (fun x_7 V_6 => ((x_7 = 0 → Q (some (aI (-1000000012))) V_6) ∧ (¬ x_7 = 0 → Q (some (aI (V_6 3 (8 * 0 + j_5) 1))) V_6)))))) ∧ (x_4 = 0 → Q (some (aI (-1000000001))) V_3))))))))
set_option maxRecDepth 10000 in
theorem okX6_as_0 {d : Nat} {P : Option AV → Mem → Prop}    (x1 : Int32) (x2 : Int32)  (V : Mem)  (h : wpX6_as_0 (Cl UX d)   x1 x2 V P) : Gq (Kp (d + 1) mX6_as UX P) UX cX6_as 4 RX6 0 [(0, aR 0 0), (1, aI x1), (2, aI x2)] [] V := by
  unfold wpX6_as_0 at h
  refine go_aload_n (q := 0) dX6_as_0 rfl rfl ?_
  refine go_iload_n (q := 1) dX6_as_1 rfl rfl ?_
  refine go_cVI (As := [aI x1]) (st := []) (r := 0) (i := 0) mv_X6_isRoof dX6_as_2 ml_X6_92 (hr_Kp (Nat.le_refl d)) rfl rfl (mX (n := 1) (by decide) rfl (by omega)) rfl rfl (Nat.le_of_ble_eq_true rfl) h (fun x_2 V_1 h => ?_)
  refine go_if_eq (tgt := 15) dX6_as_5 (by decide) (fun c_10 => ?_) (fun c_10 => ?_)
  · have h := h.1 c_10
    refine go_ldc dX6_as_15 ct_X6_83 ?_
    exact go_iret rfl dX6_as_17 h
  · have h := h.2 c_10
    refine go_iload_n (q := 2) dX6_as_8 rfl rfl ?_
    refine go_cSI (As := [aI x2]) (st := []) ms_X6_isKind dX6_as_9 ml_X6_75 (hr_Kp (Nat.le_refl d)) rfl rfl (Nat.le_of_ble_eq_true rfl) h (fun x_4 V_3 h => ?_)
    refine go_if_ne (tgt := 18) dX6_as_12 (by decide) (fun c_9 => ?_) (fun c_9 => ?_)
    · have h := h.1 c_9
      refine go_aload_n (q := 0) dX6_as_18 rfl rfl ?_
      refine go_getr fg_X6_21 dX6_as_19 (mX (n := 1) (by decide) rfl (by omega)) ?_
      refine go_getr fg_X6_95 dX6_as_22 (mX (n := 3) (by decide) rfl (by omega)) ?_
      refine go_iload_n (q := 1) dX6_as_25 rfl rfl ?_
      obtain ⟨j_5, e_j_5, l_j_5, h⟩ := h
      refine go_aald (r := 13) (n := 8) (j := j_5) rfl rfl (by decide) dX6_as_26 (mX (n := 3) (by decide) rfl (by omega)) e_j_5 l_j_5 ?_
      refine go_astore_n (al1 := [(3, aR 3 (8 * 0 + j_5)), (0, aR 0 0), (1, aI x1), (2, aI x2)]) dX6_as_27 rfl (by decide) rfl ?_
      refine go_aload_n (q := 0) dX6_as_28 rfl rfl ?_
      refine go_iload_n (q := 3) dX6_as_29 rfl rfl ?_
      refine go_cVI (As := [aI x2]) (st := []) (r := 3) (i := (8 * 0 + j_5)) mv_X2_isOf dX6_as_30 ml_X6_137 (hr_Kp (Nat.le_refl d)) rfl rfl (mX (n := 29) (by decide) rfl (by omega)) rfl rfl (Nat.le_of_ble_eq_true rfl) h (fun x_7 V_6 h => ?_)
      refine go_if_eq (tgt := 43) dX6_as_33 (by decide) (fun c_8 => ?_) (fun c_8 => ?_)
      · have h := h.1 c_8
        refine go_ldc dX6_as_43 ct_X6_140 ?_
        exact go_iret rfl dX6_as_45 h
      · have h := h.2 c_8
        refine go_aload_n (q := 0) dX6_as_36 rfl rfl ?_
        refine go_geti fg_X6_104 dX6_as_37 (mX (n := 29) (by decide) rfl (by omega)) ?_
        refine go_goto (tgt := 45) dX6_as_40 (by decide) ?_
        exact go_iret rfl dX6_as_45 h
    · have h := h.2 c_9
      refine go_ldc dX6_as_15 ct_X6_83 ?_
      exact go_iret rfl dX6_as_17 h
theorem clX6_as {d : Nat} {P : Option AV → Mem → Prop}    (x1 : Int32) (x2 : Int32) (V : Mem)  (h : wpX6_as_0 (Cl UX d)   x1 x2 V P) : Cl UX (d + 1) mX6_as [aR 0 0, aI x1, aI x2] V P :=
  cl_of [(0, aR 0 0), (1, aI x1), (2, aI x2)] (by decide) (fun _ => Nat.le_of_ble_eq_true rfl) (fun _ => rfl) (okX6_as_0   x1 x2 V  h)
theorem dX6_turns_0 : decode cX6_turns 0 = .ok (.aload_n 0, 1) := by decide +kernel
theorem dX6_turns_1 : decode cX6_turns 1 = .ok (.iload_n 1, 1) := by decide +kernel
theorem dX6_turns_2 : decode cX6_turns 2 = .ok (.invokevirtual 92, 3) := by decide +kernel
theorem dX6_turns_5 : decode cX6_turns 5 = .ok (.ifCond .eq 10, 3) := by decide +kernel
theorem dX6_turns_8 : decode cX6_turns 8 = .ok (.iload_n 2, 1) := by decide +kernel
theorem dX6_turns_9 : decode cX6_turns 9 = .ok (.invokestatic 75, 3) := by decide +kernel
theorem dX6_turns_12 : decode cX6_turns 12 = .ok (.ifCond .ne 6, 3) := by decide +kernel
theorem dX6_turns_15 : decode cX6_turns 15 = .ok (.ldc 83, 2) := by decide +kernel
theorem dX6_turns_17 : decode cX6_turns 17 = .ok (.ireturn, 1) := by decide +kernel
theorem dX6_turns_18 : decode cX6_turns 18 = .ok (.aload_n 0, 1) := by decide +kernel
theorem dX6_turns_19 : decode cX6_turns 19 = .ok (.getfield 21, 3) := by decide +kernel
theorem dX6_turns_22 : decode cX6_turns 22 = .ok (.getfield 95, 3) := by decide +kernel
theorem dX6_turns_25 : decode cX6_turns 25 = .ok (.iload_n 1, 1) := by decide +kernel
theorem dX6_turns_26 : decode cX6_turns 26 = .ok (.aaload, 1) := by decide +kernel
theorem dX6_turns_27 : decode cX6_turns 27 = .ok (.astore_n 3, 1) := by decide +kernel
theorem dX6_turns_28 : decode cX6_turns 28 = .ok (.aload_n 3, 1) := by decide +kernel
theorem dX6_turns_29 : decode cX6_turns 29 = .ok (.getfield 99, 3) := by decide +kernel
theorem dX6_turns_32 : decode cX6_turns 32 = .ok (.istore 4, 2) := by decide +kernel
theorem dX6_turns_34 : decode cX6_turns 34 = .ok (.aload_n 3, 1) := by decide +kernel
theorem dX6_turns_35 : decode cX6_turns 35 = .ok (.iload_n 2, 1) := by decide +kernel
theorem dX6_turns_36 : decode cX6_turns 36 = .ok (.putfield 99, 3) := by decide +kernel
theorem dX6_turns_39 : decode cX6_turns 39 = .ok (.iload 4, 2) := by decide +kernel
theorem dX6_turns_41 : decode cX6_turns 41 = .ok (.ireturn, 1) := by decide +kernel
def wpX6_turns_0 (C : CT)   (x1 : Int32) (x2 : Int32) (V : Mem) (Q : Option AV → Mem → Prop) : Prop :=
  (cI C mX6_isRoof [aR 0 0, aI x1] V (fun x_2 V_1 => ((x_2 = 0 → Q (some (aI (-1000000001))) V_1) ∧ (¬ x_2 = 0 → (cI C mX6_isKind [aI x2] V_1 (fun x_4 V_3 => ((¬ x_4 = 0 → (∃ j_5 : Nat, x1 = nI j_5 ∧ j_5 < 8 ∧ (∀ z_6 : Int32, z_6 = (V_3 3 (8 * 0 + j_5) 0) → (∀ V_7 : Mem, V_7 = mu V_3 3 (8 * 0 + j_5) 0 x2 → Q (some (aI z_6)) V_7)))) ∧ (x_4 = 0 → Q (some (aI (-1000000001))) V_3))))))))
set_option maxRecDepth 10000 in
theorem okX6_turns_0 {d : Nat} {P : Option AV → Mem → Prop}    (x1 : Int32) (x2 : Int32)  (V : Mem)  (h : wpX6_turns_0 (Cl UX d)   x1 x2 V P) : Gq (Kp (d + 1) mX6_turns UX P) UX cX6_turns 5 RX6 0 [(0, aR 0 0), (1, aI x1), (2, aI x2)] [] V := by
  unfold wpX6_turns_0 at h
  refine go_aload_n (q := 0) dX6_turns_0 rfl rfl ?_
  refine go_iload_n (q := 1) dX6_turns_1 rfl rfl ?_
  refine go_cVI (As := [aI x1]) (st := []) (r := 0) (i := 0) mv_X6_isRoof dX6_turns_2 ml_X6_92 (hr_Kp (Nat.le_refl d)) rfl rfl (mX (n := 1) (by decide) rfl (by omega)) rfl rfl (Nat.le_of_ble_eq_true rfl) h (fun x_2 V_1 h => ?_)
  refine go_if_eq (tgt := 15) dX6_turns_5 (by decide) (fun c_9 => ?_) (fun c_9 => ?_)
  · have h := h.1 c_9
    refine go_ldc dX6_turns_15 ct_X6_83 ?_
    exact go_iret rfl dX6_turns_17 h
  · have h := h.2 c_9
    refine go_iload_n (q := 2) dX6_turns_8 rfl rfl ?_
    refine go_cSI (As := [aI x2]) (st := []) ms_X6_isKind dX6_turns_9 ml_X6_75 (hr_Kp (Nat.le_refl d)) rfl rfl (Nat.le_of_ble_eq_true rfl) h (fun x_4 V_3 h => ?_)
    refine go_if_ne (tgt := 18) dX6_turns_12 (by decide) (fun c_8 => ?_) (fun c_8 => ?_)
    · have h := h.1 c_8
      refine go_aload_n (q := 0) dX6_turns_18 rfl rfl ?_
      refine go_getr fg_X6_21 dX6_turns_19 (mX (n := 1) (by decide) rfl (by omega)) ?_
      refine go_getr fg_X6_95 dX6_turns_22 (mX (n := 3) (by decide) rfl (by omega)) ?_
      refine go_iload_n (q := 1) dX6_turns_25 rfl rfl ?_
      obtain ⟨j_5, e_j_5, l_j_5, h⟩ := h
      refine go_aald (r := 13) (n := 8) (j := j_5) rfl rfl (by decide) dX6_turns_26 (mX (n := 3) (by decide) rfl (by omega)) e_j_5 l_j_5 ?_
      refine go_astore_n (al1 := [(3, aR 3 (8 * 0 + j_5)), (0, aR 0 0), (1, aI x1), (2, aI x2)]) dX6_turns_27 rfl (by decide) rfl ?_
      refine go_aload_n (q := 0) dX6_turns_28 rfl rfl ?_
      refine go_geti fg_X6_99 dX6_turns_29 (mX (n := 29) (by decide) rfl (by omega)) ?_
      refine nmI (fun z_6 e_z_6 => ?_)
      have h := h z_6 e_z_6
      refine go_istore (al1 := [(4, aI z_6), (3, aR 3 (8 * 0 + j_5)), (0, aR 0 0), (1, aI x1), (2, aI x2)]) dX6_turns_32 (by decide) rfl ?_
      refine go_aload_n (q := 1) dX6_turns_34 rfl rfl ?_
      refine go_iload_n (q := 4) dX6_turns_35 rfl rfl ?_
      refine go_puti fp_X6_99 dX6_turns_36 (mX (n := 29) (by decide) rfl (by omega)) ?_
      refine nmV (fun V_7 e_V_7 => ?_)
      have h := h V_7 e_V_7
      refine go_iload (q := 0) dX6_turns_39 rfl ?_
      exact go_iret rfl dX6_turns_41 h
    · have h := h.2 c_8
      refine go_ldc dX6_turns_15 ct_X6_83 ?_
      exact go_iret rfl dX6_turns_17 h
theorem clX6_turns {d : Nat} {P : Option AV → Mem → Prop}    (x1 : Int32) (x2 : Int32) (V : Mem)  (h : wpX6_turns_0 (Cl UX d)   x1 x2 V P) : Cl UX (d + 1) mX6_turns [aR 0 0, aI x1, aI x2] V P :=
  cl_of [(0, aR 0 0), (1, aI x1), (2, aI x2)] (by decide) (fun _ => Nat.le_of_ble_eq_true rfl) (fun _ => rfl) (okX6_turns_0   x1 x2 V  h)
theorem dX6_set_0 : decode cX6_set 0 = .ok (.aload_n 0, 1) := by decide +kernel
theorem dX6_set_1 : decode cX6_set 1 = .ok (.iload_n 1, 1) := by decide +kernel
theorem dX6_set_2 : decode cX6_set 2 = .ok (.invokevirtual 92, 3) := by decide +kernel
theorem dX6_set_5 : decode cX6_set 5 = .ok (.ifCond .ne 6, 3) := by decide +kernel
theorem dX6_set_8 : decode cX6_set 8 = .ok (.ldc 83, 2) := by decide +kernel
theorem dX6_set_10 : decode cX6_set 10 = .ok (.ireturn, 1) := by decide +kernel
theorem dX6_set_11 : decode cX6_set 11 = .ok (.iload_n 2, 1) := by decide +kernel
theorem dX6_set_12 : decode cX6_set 12 = .ok (.tableswitch 117 1 3 #[28, 57, 86], 28) := by decide +kernel
theorem dX6_set_40 : decode cX6_set 40 = .ok (.iload_n 3, 1) := by decide +kernel
theorem dX6_set_41 : decode cX6_set 41 = .ok (.iconst 1, 1) := by decide +kernel
theorem dX6_set_42 : decode cX6_set 42 = .ok (.bipush 9, 2) := by decide +kernel
theorem dX6_set_44 : decode cX6_set 44 = .ok (.invokestatic 79, 3) := by decide +kernel
theorem dX6_set_47 : decode cX6_set 47 = .ok (.ifCond .eq 19, 3) := by decide +kernel
theorem dX6_set_50 : decode cX6_set 50 = .ok (.aload_n 0, 1) := by decide +kernel
theorem dX6_set_51 : decode cX6_set 51 = .ok (.getfield 21, 3) := by decide +kernel
theorem dX6_set_54 : decode cX6_set 54 = .ok (.getfield 95, 3) := by decide +kernel
theorem dX6_set_57 : decode cX6_set 57 = .ok (.iload_n 1, 1) := by decide +kernel
theorem dX6_set_58 : decode cX6_set 58 = .ok (.aaload, 1) := by decide +kernel
theorem dX6_set_59 : decode cX6_set 59 = .ok (.iload_n 3, 1) := by decide +kernel
theorem dX6_set_60 : decode cX6_set 60 = .ok (.invokestatic 141, 3) := by decide +kernel
theorem dX6_set_63 : decode cX6_set 63 = .ok (.goto 5, 3) := by decide +kernel
theorem dX6_set_66 : decode cX6_set 66 = .ok (.ldc 83, 2) := by decide +kernel
theorem dX6_set_68 : decode cX6_set 68 = .ok (.ireturn, 1) := by decide +kernel
theorem dX6_set_69 : decode cX6_set 69 = .ok (.iload_n 3, 1) := by decide +kernel
theorem dX6_set_70 : decode cX6_set 70 = .ok (.iconst 0, 1) := by decide +kernel
theorem dX6_set_71 : decode cX6_set 71 = .ok (.bipush 9, 2) := by decide +kernel
theorem dX6_set_73 : decode cX6_set 73 = .ok (.invokestatic 79, 3) := by decide +kernel
theorem dX6_set_76 : decode cX6_set 76 = .ok (.ifCond .eq 19, 3) := by decide +kernel
theorem dX6_set_79 : decode cX6_set 79 = .ok (.aload_n 0, 1) := by decide +kernel
theorem dX6_set_80 : decode cX6_set 80 = .ok (.getfield 21, 3) := by decide +kernel
theorem dX6_set_83 : decode cX6_set 83 = .ok (.getfield 95, 3) := by decide +kernel
theorem dX6_set_86 : decode cX6_set 86 = .ok (.iload_n 1, 1) := by decide +kernel
theorem dX6_set_87 : decode cX6_set 87 = .ok (.aaload, 1) := by decide +kernel
theorem dX6_set_88 : decode cX6_set 88 = .ok (.iload_n 3, 1) := by decide +kernel
theorem dX6_set_89 : decode cX6_set 89 = .ok (.invokestatic 145, 3) := by decide +kernel
theorem dX6_set_92 : decode cX6_set 92 = .ok (.goto 5, 3) := by decide +kernel
theorem dX6_set_95 : decode cX6_set 95 = .ok (.ldc 83, 2) := by decide +kernel
theorem dX6_set_97 : decode cX6_set 97 = .ok (.ireturn, 1) := by decide +kernel
theorem dX6_set_98 : decode cX6_set 98 = .ok (.iload_n 3, 1) := by decide +kernel
theorem dX6_set_99 : decode cX6_set 99 = .ok (.iconst 0, 1) := by decide +kernel
theorem dX6_set_100 : decode cX6_set 100 = .ok (.sipush 999, 3) := by decide +kernel
theorem dX6_set_103 : decode cX6_set 103 = .ok (.invokestatic 79, 3) := by decide +kernel
theorem dX6_set_106 : decode cX6_set 106 = .ok (.ifCond .eq 20, 3) := by decide +kernel
theorem dX6_set_109 : decode cX6_set 109 = .ok (.aload_n 0, 1) := by decide +kernel
theorem dX6_set_110 : decode cX6_set 110 = .ok (.aload_n 0, 1) := by decide +kernel
theorem dX6_set_111 : decode cX6_set 111 = .ok (.getfield 21, 3) := by decide +kernel
theorem dX6_set_114 : decode cX6_set 114 = .ok (.getfield 95, 3) := by decide +kernel
theorem dX6_set_117 : decode cX6_set 117 = .ok (.iload_n 1, 1) := by decide +kernel
theorem dX6_set_118 : decode cX6_set 118 = .ok (.aaload, 1) := by decide +kernel
theorem dX6_set_119 : decode cX6_set 119 = .ok (.iload_n 3, 1) := by decide +kernel
theorem dX6_set_120 : decode cX6_set 120 = .ok (.invokevirtual 148, 3) := by decide +kernel
theorem dX6_set_123 : decode cX6_set 123 = .ok (.goto 5, 3) := by decide +kernel
theorem dX6_set_126 : decode cX6_set 126 = .ok (.ldc 83, 2) := by decide +kernel
theorem dX6_set_128 : decode cX6_set 128 = .ok (.ireturn, 1) := by decide +kernel
theorem dX6_set_129 : decode cX6_set 129 = .ok (.ldc 83, 2) := by decide +kernel
theorem dX6_set_131 : decode cX6_set 131 = .ok (.ireturn, 1) := by decide +kernel
def wpX6_set_0 (C : CT)   (x1 : Int32) (x2 : Int32) (x3 : Int32) (V : Mem) (Q : Option AV → Mem → Prop) : Prop :=
  (cI C mX6_isRoof [aR 0 0, aI x1] V (fun x_2 V_1 => ((¬ x_2 = 0 → ((x2 = 1 → (cI C mX6_isWithin [aI x3, aI 1, aI 9] V_1 (fun x_4 V_3 => ((x_4 = 0 → Q (some (aI (-1000000001))) V_3) ∧ (¬ x_4 = 0 → (∃ j_5 : Nat, x1 = nI j_5 ∧ j_5 < 8 ∧ (cI C mX6_changeSize [aR 3 (8 * 0 + j_5), aI x3] V_3 (fun x_7 V_6 => Q (some (aI x_7)) V_6)))))))) ∧ (x2 = 2 → (cI C mX6_isWithin [aI x3, aI 0, aI 9] V_1 (fun x_10 V_9 => ((x_10 = 0 → Q (some (aI (-1000000001))) V_9) ∧ (¬ x_10 = 0 → (∃ j_11 : Nat, x1 = nI j_11 ∧ j_11 < 8 ∧ (cI C mX6_changeHeat [aR 3 (8 * 0 + j_11), aI x3] V_9 (fun x_13 V_12 => Q (some (aI x_13)) V_12)))))))) ∧ (x2 = 3 → (cI C mX6_isWithin [aI x3, aI 0, aI 999] V_1 (fun x_16 V_15 => ((x_16 = 0 → Q (some (aI (-1000000001))) V_15) ∧ (¬ x_16 = 0 → (∃ j_17 : Nat, x1 = nI j_17 ∧ j_17 < 8 ∧ (cI C mX6_changeRoom [aR 0 0, aR 3 (8 * 0 + j_17), aI x3] V_15 (fun x_19 V_18 => Q (some (aI x_19)) V_18)))))))) ∧ (¬ x2 = 1 ∧ ¬ x2 = 2 ∧ ¬ x2 = 3 → Q (some (aI (-1000000001))) V_1))) ∧ (x_2 = 0 → Q (some (aI (-1000000001))) V_1))))
set_option maxRecDepth 10000 in
theorem okX6_set_0 {d : Nat} {P : Option AV → Mem → Prop}    (x1 : Int32) (x2 : Int32) (x3 : Int32)  (V : Mem)  (h : wpX6_set_0 (Cl UX d)   x1 x2 x3 V P) : Gq (Kp (d + 1) mX6_set UX P) UX cX6_set 4 RX6 0 [(0, aR 0 0), (1, aI x1), (2, aI x2), (3, aI x3)] [] V := by
  unfold wpX6_set_0 at h
  refine go_aload_n (q := 0) dX6_set_0 rfl rfl ?_
  refine go_iload_n (q := 1) dX6_set_1 rfl rfl ?_
  refine go_cVI (As := [aI x1]) (st := []) (r := 0) (i := 0) mv_X6_isRoof dX6_set_2 ml_X6_92 (hr_Kp (Nat.le_refl d)) rfl rfl (mX (n := 1) (by decide) rfl (by omega)) rfl rfl (Nat.le_of_ble_eq_true rfl) h (fun x_2 V_1 h => ?_)
  refine go_if_ne (tgt := 11) dX6_set_5 (by decide) (fun c_21 => ?_) (fun c_21 => ?_)
  · have h := h.1 c_21
    refine go_iload_n (q := 2) dX6_set_11 rfl rfl ?_
    by_cases c12_0 : x2 = 1
    · have h := h.1 c12_0
      refine go_tabC (z := 1) (off := 28) (tgt := 40) c12_0 dX6_set_12 (by decide) (by decide) rfl (by decide) ?_
      refine go_iload_n (q := 3) dX6_set_40 rfl rfl ?_
      refine go_iconst (v := 1) dX6_set_41 (by decide) ?_
      refine go_bipush (v := 9) dX6_set_42 (by decide) ?_
      refine go_cSI (As := [aI x3, aI 1, aI 9]) (st := []) ms_X6_isWithin dX6_set_44 ml_X6_79 (hr_Kp (Nat.le_refl d)) rfl rfl (Nat.le_of_ble_eq_true rfl) h (fun x_4 V_3 h => ?_)
      refine go_if_eq (tgt := 66) dX6_set_47 (by decide) (fun c_8 => ?_) (fun c_8 => ?_)
      · have h := h.1 c_8
        refine go_ldc dX6_set_66 ct_X6_83 ?_
        exact go_iret rfl dX6_set_68 h
      · have h := h.2 c_8
        refine go_aload_n (q := 0) dX6_set_50 rfl rfl ?_
        refine go_getr fg_X6_21 dX6_set_51 (mX (n := 1) (by decide) rfl (by omega)) ?_
        refine go_getr fg_X6_95 dX6_set_54 (mX (n := 3) (by decide) rfl (by omega)) ?_
        refine go_iload_n (q := 1) dX6_set_57 rfl rfl ?_
        obtain ⟨j_5, e_j_5, l_j_5, h⟩ := h
        refine go_aald (r := 13) (n := 8) (j := j_5) rfl rfl (by decide) dX6_set_58 (mX (n := 3) (by decide) rfl (by omega)) e_j_5 l_j_5 ?_
        refine go_iload_n (q := 3) dX6_set_59 rfl rfl ?_
        refine go_cSI (As := [aR 3 (8 * 0 + j_5), aI x3]) (st := []) ms_X6_changeSize dX6_set_60 ml_X6_141 (hr_Kp (Nat.le_refl d)) rfl rfl (Nat.le_of_ble_eq_true rfl) h (fun x_7 V_6 h => ?_)
        refine go_goto (tgt := 68) dX6_set_63 (by decide) ?_
        exact go_iret rfl dX6_set_68 h
    by_cases c12_1 : x2 = 2
    · have h := h.2.1 c12_1
      refine go_tabC (z := 2) (off := 57) (tgt := 69) c12_1 dX6_set_12 (by decide) (by decide) rfl (by decide) ?_
      refine go_iload_n (q := 3) dX6_set_69 rfl rfl ?_
      refine go_iconst (v := 0) dX6_set_70 (by decide) ?_
      refine go_bipush (v := 9) dX6_set_71 (by decide) ?_
      refine go_cSI (As := [aI x3, aI 0, aI 9]) (st := []) ms_X6_isWithin dX6_set_73 ml_X6_79 (hr_Kp (Nat.le_refl d)) rfl rfl (Nat.le_of_ble_eq_true rfl) h (fun x_10 V_9 h => ?_)
      refine go_if_eq (tgt := 95) dX6_set_76 (by decide) (fun c_14 => ?_) (fun c_14 => ?_)
      · have h := h.1 c_14
        refine go_ldc dX6_set_95 ct_X6_83 ?_
        exact go_iret rfl dX6_set_97 h
      · have h := h.2 c_14
        refine go_aload_n (q := 0) dX6_set_79 rfl rfl ?_
        refine go_getr fg_X6_21 dX6_set_80 (mX (n := 1) (by decide) rfl (by omega)) ?_
        refine go_getr fg_X6_95 dX6_set_83 (mX (n := 3) (by decide) rfl (by omega)) ?_
        refine go_iload_n (q := 1) dX6_set_86 rfl rfl ?_
        obtain ⟨j_11, e_j_11, l_j_11, h⟩ := h
        refine go_aald (r := 13) (n := 8) (j := j_11) rfl rfl (by decide) dX6_set_87 (mX (n := 3) (by decide) rfl (by omega)) e_j_11 l_j_11 ?_
        refine go_iload_n (q := 3) dX6_set_88 rfl rfl ?_
        refine go_cSI (As := [aR 3 (8 * 0 + j_11), aI x3]) (st := []) ms_X6_changeHeat dX6_set_89 ml_X6_145 (hr_Kp (Nat.le_refl d)) rfl rfl (Nat.le_of_ble_eq_true rfl) h (fun x_13 V_12 h => ?_)
        refine go_goto (tgt := 97) dX6_set_92 (by decide) ?_
        exact go_iret rfl dX6_set_97 h
    by_cases c12_2 : x2 = 3
    · have h := h.2.2.1 c12_2
      refine go_tabC (z := 3) (off := 86) (tgt := 98) c12_2 dX6_set_12 (by decide) (by decide) rfl (by decide) ?_
      refine go_iload_n (q := 3) dX6_set_98 rfl rfl ?_
      refine go_iconst (v := 0) dX6_set_99 (by decide) ?_
      refine go_sipush (v := 999) dX6_set_100 (by decide) ?_
      refine go_cSI (As := [aI x3, aI 0, aI 999]) (st := []) ms_X6_isWithin dX6_set_103 ml_X6_79 (hr_Kp (Nat.le_refl d)) rfl rfl (Nat.le_of_ble_eq_true rfl) h (fun x_16 V_15 h => ?_)
      refine go_if_eq (tgt := 126) dX6_set_106 (by decide) (fun c_20 => ?_) (fun c_20 => ?_)
      · have h := h.1 c_20
        refine go_ldc dX6_set_126 ct_X6_83 ?_
        exact go_iret rfl dX6_set_128 h
      · have h := h.2 c_20
        refine go_aload_n (q := 0) dX6_set_109 rfl rfl ?_
        refine go_aload_n (q := 0) dX6_set_110 rfl rfl ?_
        refine go_getr fg_X6_21 dX6_set_111 (mX (n := 1) (by decide) rfl (by omega)) ?_
        refine go_getr fg_X6_95 dX6_set_114 (mX (n := 3) (by decide) rfl (by omega)) ?_
        refine go_iload_n (q := 1) dX6_set_117 rfl rfl ?_
        obtain ⟨j_17, e_j_17, l_j_17, h⟩ := h
        refine go_aald (r := 13) (n := 8) (j := j_17) rfl rfl (by decide) dX6_set_118 (mX (n := 3) (by decide) rfl (by omega)) e_j_17 l_j_17 ?_
        refine go_iload_n (q := 3) dX6_set_119 rfl rfl ?_
        refine go_cVI (As := [aR 3 (8 * 0 + j_17), aI x3]) (st := []) (r := 0) (i := 0) mv_X6_changeRoom dX6_set_120 ml_X6_148 (hr_Kp (Nat.le_refl d)) rfl rfl (mX (n := 1) (by decide) rfl (by omega)) rfl rfl (Nat.le_of_ble_eq_true rfl) h (fun x_19 V_18 h => ?_)
        refine go_goto (tgt := 128) dX6_set_123 (by decide) ?_
        exact go_iret rfl dX6_set_128 h
    have h := h.2.2.2 ⟨c12_0, c12_1, c12_2⟩
    have q_c12_0 := lv_neT c12_0 (show (1 : Int32).toInt = 1 from rfl)
    have q_c12_1 := lv_neT c12_1 (show (2 : Int32).toInt = 2 from rfl)
    have q_c12_2 := lv_neT c12_2 (show (3 : Int32).toInt = 3 from rfl)
    refine go_tabOut (tgt := 129) dX6_set_12 (by omega) (by decide) ?_
    refine go_ldc dX6_set_129 ct_X6_83 ?_
    exact go_iret rfl dX6_set_131 h
  · have h := h.2 c_21
    refine go_ldc dX6_set_8 ct_X6_83 ?_
    exact go_iret rfl dX6_set_10 h
theorem clX6_set {d : Nat} {P : Option AV → Mem → Prop}    (x1 : Int32) (x2 : Int32) (x3 : Int32) (V : Mem)  (h : wpX6_set_0 (Cl UX d)   x1 x2 x3 V P) : Cl UX (d + 1) mX6_set [aR 0 0, aI x1, aI x2, aI x3] V P :=
  cl_of [(0, aR 0 0), (1, aI x1), (2, aI x2), (3, aI x3)] (by decide) (fun _ => Nat.le_of_ble_eq_true rfl) (fun _ => rfl) (okX6_set_0   x1 x2 x3 V  h)
theorem dX6_sweep_0 : decode cX6_sweep 0 = .ok (.aload_n 0, 1) := by decide +kernel
theorem dX6_sweep_1 : decode cX6_sweep 1 = .ok (.iload_n 1, 1) := by decide +kernel
theorem dX6_sweep_2 : decode cX6_sweep 2 = .ok (.invokevirtual 92, 3) := by decide +kernel
theorem dX6_sweep_5 : decode cX6_sweep 5 = .ok (.ifCond .eq 14, 3) := by decide +kernel
theorem dX6_sweep_8 : decode cX6_sweep 8 = .ok (.iload_n 2, 1) := by decide +kernel
theorem dX6_sweep_9 : decode cX6_sweep 9 = .ok (.iconst 1, 1) := by decide +kernel
theorem dX6_sweep_10 : decode cX6_sweep 10 = .ok (.sipush 9999, 3) := by decide +kernel
theorem dX6_sweep_13 : decode cX6_sweep 13 = .ok (.invokestatic 79, 3) := by decide +kernel
theorem dX6_sweep_16 : decode cX6_sweep 16 = .ok (.ifCond .ne 6, 3) := by decide +kernel
theorem dX6_sweep_19 : decode cX6_sweep 19 = .ok (.ldc 83, 2) := by decide +kernel
theorem dX6_sweep_21 : decode cX6_sweep 21 = .ok (.ireturn, 1) := by decide +kernel
theorem dX6_sweep_22 : decode cX6_sweep 22 = .ok (.aload_n 0, 1) := by decide +kernel
theorem dX6_sweep_23 : decode cX6_sweep 23 = .ok (.getfield 21, 3) := by decide +kernel
theorem dX6_sweep_26 : decode cX6_sweep 26 = .ok (.getfield 95, 3) := by decide +kernel
theorem dX6_sweep_29 : decode cX6_sweep 29 = .ok (.iload_n 1, 1) := by decide +kernel
theorem dX6_sweep_30 : decode cX6_sweep 30 = .ok (.aaload, 1) := by decide +kernel
theorem dX6_sweep_31 : decode cX6_sweep 31 = .ok (.astore_n 3, 1) := by decide +kernel
theorem dX6_sweep_32 : decode cX6_sweep 32 = .ok (.iload_n 2, 1) := by decide +kernel
theorem dX6_sweep_33 : decode cX6_sweep 33 = .ok (.aload_n 0, 1) := by decide +kernel
theorem dX6_sweep_34 : decode cX6_sweep 34 = .ok (.getfield 21, 3) := by decide +kernel
theorem dX6_sweep_37 : decode cX6_sweep 37 = .ok (.getfield 151, 3) := by decide +kernel
theorem dX6_sweep_40 : decode cX6_sweep 40 = .ok (.invokestatic 154, 3) := by decide +kernel
theorem dX6_sweep_43 : decode cX6_sweep 43 = .ok (.sipush 9999, 3) := by decide +kernel
theorem dX6_sweep_46 : decode cX6_sweep 46 = .ok (.aload_n 3, 1) := by decide +kernel
theorem dX6_sweep_47 : decode cX6_sweep 47 = .ok (.getfield 116, 3) := by decide +kernel
theorem dX6_sweep_50 : decode cX6_sweep 50 = .ok (.isub, 1) := by decide +kernel
theorem dX6_sweep_51 : decode cX6_sweep 51 = .ok (.invokestatic 154, 3) := by decide +kernel
theorem dX6_sweep_54 : decode cX6_sweep 54 = .ok (.istore 4, 2) := by decide +kernel
theorem dX6_sweep_56 : decode cX6_sweep 56 = .ok (.aload_n 0, 1) := by decide +kernel
theorem dX6_sweep_57 : decode cX6_sweep 57 = .ok (.getfield 21, 3) := by decide +kernel
theorem dX6_sweep_60 : decode cX6_sweep 60 = .ok (.dup, 1) := by decide +kernel
theorem dX6_sweep_61 : decode cX6_sweep 61 = .ok (.getfield 151, 3) := by decide +kernel
theorem dX6_sweep_64 : decode cX6_sweep 64 = .ok (.iload 4, 2) := by decide +kernel
theorem dX6_sweep_66 : decode cX6_sweep 66 = .ok (.isub, 1) := by decide +kernel
theorem dX6_sweep_67 : decode cX6_sweep 67 = .ok (.putfield 151, 3) := by decide +kernel
theorem dX6_sweep_70 : decode cX6_sweep 70 = .ok (.aload_n 3, 1) := by decide +kernel
theorem dX6_sweep_71 : decode cX6_sweep 71 = .ok (.dup, 1) := by decide +kernel
theorem dX6_sweep_72 : decode cX6_sweep 72 = .ok (.getfield 116, 3) := by decide +kernel
theorem dX6_sweep_75 : decode cX6_sweep 75 = .ok (.iload 4, 2) := by decide +kernel
theorem dX6_sweep_77 : decode cX6_sweep 77 = .ok (.iadd, 1) := by decide +kernel
theorem dX6_sweep_78 : decode cX6_sweep 78 = .ok (.putfield 116, 3) := by decide +kernel
theorem dX6_sweep_81 : decode cX6_sweep 81 = .ok (.aload_n 0, 1) := by decide +kernel
theorem dX6_sweep_82 : decode cX6_sweep 82 = .ok (.getfield 21, 3) := by decide +kernel
theorem dX6_sweep_85 : decode cX6_sweep 85 = .ok (.dup, 1) := by decide +kernel
theorem dX6_sweep_86 : decode cX6_sweep 86 = .ok (.getfield 159, 3) := by decide +kernel
theorem dX6_sweep_89 : decode cX6_sweep 89 = .ok (.iload 4, 2) := by decide +kernel
theorem dX6_sweep_91 : decode cX6_sweep 91 = .ok (.iadd, 1) := by decide +kernel
theorem dX6_sweep_92 : decode cX6_sweep 92 = .ok (.putfield 159, 3) := by decide +kernel
theorem dX6_sweep_95 : decode cX6_sweep 95 = .ok (.iload 4, 2) := by decide +kernel
theorem dX6_sweep_97 : decode cX6_sweep 97 = .ok (.ireturn, 1) := by decide +kernel
def wpX6_sweep_0 (C : CT)   (x1 : Int32) (x2 : Int32) (V : Mem) (Q : Option AV → Mem → Prop) : Prop :=
  (cI C mX6_isRoof [aR 0 0, aI x1] V (fun x_2 V_1 => ((x_2 = 0 → Q (some (aI (-1000000001))) V_1) ∧ (¬ x_2 = 0 → (cI C mX6_isWithin [aI x2, aI 1, aI 9999] V_1 (fun x_4 V_3 => ((¬ x_4 = 0 → (∃ j_5 : Nat, x1 = nI j_5 ∧ j_5 < 8 ∧ (∀ z_6 : Int32, z_6 = (if (V_3 2 0 10) < x2 then (V_3 2 0 10) else x2) → (∀ z_7 : Int32, z_7 = (if (9999 - (V_3 3 (8 * 0 + j_5) 5)) < z_6 then (9999 - (V_3 3 (8 * 0 + j_5) 5)) else z_6) → (∀ V_8 : Mem, V_8 = mu V_3 2 0 10 ((V_3 2 0 10) - z_7) → (∀ V_9 : Mem, V_9 = mu V_8 3 (8 * 0 + j_5) 5 ((V_8 3 (8 * 0 + j_5) 5) + z_7) → (∀ V_10 : Mem, V_10 = mu V_9 2 0 14 ((V_9 2 0 14) + z_7) → Q (some (aI z_7)) V_10))))))) ∧ (x_4 = 0 → Q (some (aI (-1000000001))) V_3))))))))
set_option maxRecDepth 10000 in
theorem okX6_sweep_0 {d : Nat} {P : Option AV → Mem → Prop}    (x1 : Int32) (x2 : Int32)  (V : Mem)  (h : wpX6_sweep_0 (Cl UX d)   x1 x2 V P) : Gq (Kp (d + 1) mX6_sweep UX P) UX cX6_sweep 5 RX6 0 [(0, aR 0 0), (1, aI x1), (2, aI x2)] [] V := by
  unfold wpX6_sweep_0 at h
  refine go_aload_n (q := 0) dX6_sweep_0 rfl rfl ?_
  refine go_iload_n (q := 1) dX6_sweep_1 rfl rfl ?_
  refine go_cVI (As := [aI x1]) (st := []) (r := 0) (i := 0) mv_X6_isRoof dX6_sweep_2 ml_X6_92 (hr_Kp (Nat.le_refl d)) rfl rfl (mX (n := 1) (by decide) rfl (by omega)) rfl rfl (Nat.le_of_ble_eq_true rfl) h (fun x_2 V_1 h => ?_)
  refine go_if_eq (tgt := 19) dX6_sweep_5 (by decide) (fun c_12 => ?_) (fun c_12 => ?_)
  · have h := h.1 c_12
    refine go_ldc dX6_sweep_19 ct_X6_83 ?_
    exact go_iret rfl dX6_sweep_21 h
  · have h := h.2 c_12
    refine go_iload_n (q := 2) dX6_sweep_8 rfl rfl ?_
    refine go_iconst (v := 1) dX6_sweep_9 (by decide) ?_
    refine go_sipush (v := 9999) dX6_sweep_10 (by decide) ?_
    refine go_cSI (As := [aI x2, aI 1, aI 9999]) (st := []) ms_X6_isWithin dX6_sweep_13 ml_X6_79 (hr_Kp (Nat.le_refl d)) rfl rfl (Nat.le_of_ble_eq_true rfl) h (fun x_4 V_3 h => ?_)
    refine go_if_ne (tgt := 22) dX6_sweep_16 (by decide) (fun c_11 => ?_) (fun c_11 => ?_)
    · have h := h.1 c_11
      refine go_aload_n (q := 0) dX6_sweep_22 rfl rfl ?_
      refine go_getr fg_X6_21 dX6_sweep_23 (mX (n := 1) (by decide) rfl (by omega)) ?_
      refine go_getr fg_X6_95 dX6_sweep_26 (mX (n := 3) (by decide) rfl (by omega)) ?_
      refine go_iload_n (q := 1) dX6_sweep_29 rfl rfl ?_
      obtain ⟨j_5, e_j_5, l_j_5, h⟩ := h
      refine go_aald (r := 13) (n := 8) (j := j_5) rfl rfl (by decide) dX6_sweep_30 (mX (n := 3) (by decide) rfl (by omega)) e_j_5 l_j_5 ?_
      refine go_astore_n (al1 := [(3, aR 3 (8 * 0 + j_5)), (0, aR 0 0), (1, aI x1), (2, aI x2)]) dX6_sweep_31 rfl (by decide) rfl ?_
      refine go_iload_n (q := 3) dX6_sweep_32 rfl rfl ?_
      refine go_aload_n (q := 1) dX6_sweep_33 rfl rfl ?_
      refine go_getr fg_X6_21 dX6_sweep_34 (mX (n := 1) (by decide) rfl (by omega)) ?_
      refine go_geti fg_X6_151 dX6_sweep_37 (mX (n := 3) (by decide) rfl (by omega)) ?_
      refine go_mmin ml_X6_154 mt_min1 mt_ini mt_min2 (hr_Kp (Nat.zero_le d)) (Nat.le_of_ble_eq_true rfl) dX6_sweep_40 ?_
      refine nmI (fun z_6 e_z_6 => ?_)
      have h := h z_6 e_z_6
      refine go_sipush (v := 9999) dX6_sweep_43 (by decide) ?_
      refine go_aload_n (q := 0) dX6_sweep_46 rfl rfl ?_
      refine go_geti fg_X6_116 dX6_sweep_47 (mX (n := 29) (by decide) rfl (by omega)) ?_
      refine go_isub dX6_sweep_50 ?_
      refine go_mmin ml_X6_154 mt_min1 mt_ini mt_min2 (hr_Kp (Nat.zero_le d)) (Nat.le_of_ble_eq_true rfl) dX6_sweep_51 ?_
      refine nmI (fun z_7 e_z_7 => ?_)
      have h := h z_7 e_z_7
      refine go_istore (al1 := [(4, aI z_7), (3, aR 3 (8 * 0 + j_5)), (0, aR 0 0), (1, aI x1), (2, aI x2)]) dX6_sweep_54 (by decide) rfl ?_
      refine go_aload_n (q := 2) dX6_sweep_56 rfl rfl ?_
      refine go_getr fg_X6_21 dX6_sweep_57 (mX (n := 1) (by decide) rfl (by omega)) ?_
      refine go_dup dX6_sweep_60 rfl ?_
      refine go_geti fg_X6_151 dX6_sweep_61 (mX (n := 3) (by decide) rfl (by omega)) ?_
      refine go_iload (q := 0) dX6_sweep_64 rfl ?_
      refine go_isub dX6_sweep_66 ?_
      refine go_puti fp_X6_151 dX6_sweep_67 (mX (n := 3) (by decide) rfl (by omega)) ?_
      refine nmV (fun V_8 e_V_8 => ?_)
      have h := h V_8 e_V_8
      refine go_aload_n (q := 1) dX6_sweep_70 rfl rfl ?_
      refine go_dup dX6_sweep_71 rfl ?_
      refine go_geti fg_X6_116 dX6_sweep_72 (mX (n := 29) (by decide) rfl (by omega)) ?_
      refine go_iload (q := 0) dX6_sweep_75 rfl ?_
      refine go_iadd dX6_sweep_77 ?_
      refine go_puti fp_X6_116 dX6_sweep_78 (mX (n := 29) (by decide) rfl (by omega)) ?_
      refine nmV (fun V_9 e_V_9 => ?_)
      have h := h V_9 e_V_9
      refine go_aload_n (q := 2) dX6_sweep_81 rfl rfl ?_
      refine go_getr fg_X6_21 dX6_sweep_82 (mX (n := 1) (by decide) rfl (by omega)) ?_
      refine go_dup dX6_sweep_85 rfl ?_
      refine go_geti fg_X6_159 dX6_sweep_86 (mX (n := 3) (by decide) rfl (by omega)) ?_
      refine go_iload (q := 0) dX6_sweep_89 rfl ?_
      refine go_iadd dX6_sweep_91 ?_
      refine go_puti fp_X6_159 dX6_sweep_92 (mX (n := 3) (by decide) rfl (by omega)) ?_
      refine nmV (fun V_10 e_V_10 => ?_)
      have h := h V_10 e_V_10
      refine go_iload (q := 0) dX6_sweep_95 rfl ?_
      exact go_iret rfl dX6_sweep_97 h
    · have h := h.2 c_11
      refine go_ldc dX6_sweep_19 ct_X6_83 ?_
      exact go_iret rfl dX6_sweep_21 h
theorem clX6_sweep {d : Nat} {P : Option AV → Mem → Prop}    (x1 : Int32) (x2 : Int32) (V : Mem)  (h : wpX6_sweep_0 (Cl UX d)   x1 x2 V P) : Cl UX (d + 1) mX6_sweep [aR 0 0, aI x1, aI x2] V P :=
  cl_of [(0, aR 0 0), (1, aI x1), (2, aI x2)] (by decide) (fun _ => Nat.le_of_ble_eq_true rfl) (fun _ => rfl) (okX6_sweep_0   x1 x2 V  h)
theorem dX6_use_0 : decode cX6_use 0 = .ok (.aload_n 0, 1) := by decide +kernel
theorem dX6_use_1 : decode cX6_use 1 = .ok (.iload_n 1, 1) := by decide +kernel
theorem dX6_use_2 : decode cX6_use 2 = .ok (.invokevirtual 92, 3) := by decide +kernel
theorem dX6_use_5 : decode cX6_use 5 = .ok (.ifCond .eq 14, 3) := by decide +kernel
theorem dX6_use_8 : decode cX6_use 8 = .ok (.iload_n 2, 1) := by decide +kernel
theorem dX6_use_9 : decode cX6_use 9 = .ok (.iconst 1, 1) := by decide +kernel
theorem dX6_use_10 : decode cX6_use 10 = .ok (.sipush 999, 3) := by decide +kernel
theorem dX6_use_13 : decode cX6_use 13 = .ok (.invokestatic 79, 3) := by decide +kernel
theorem dX6_use_16 : decode cX6_use 16 = .ok (.ifCond .ne 6, 3) := by decide +kernel
theorem dX6_use_19 : decode cX6_use 19 = .ok (.ldc 83, 2) := by decide +kernel
theorem dX6_use_21 : decode cX6_use 21 = .ok (.ireturn, 1) := by decide +kernel
theorem dX6_use_22 : decode cX6_use 22 = .ok (.aload_n 0, 1) := by decide +kernel
theorem dX6_use_23 : decode cX6_use 23 = .ok (.getfield 21, 3) := by decide +kernel
theorem dX6_use_26 : decode cX6_use 26 = .ok (.getfield 95, 3) := by decide +kernel
theorem dX6_use_29 : decode cX6_use 29 = .ok (.iload_n 1, 1) := by decide +kernel
theorem dX6_use_30 : decode cX6_use 30 = .ok (.aaload, 1) := by decide +kernel
theorem dX6_use_31 : decode cX6_use 31 = .ok (.astore_n 3, 1) := by decide +kernel
theorem dX6_use_32 : decode cX6_use 32 = .ok (.iload_n 2, 1) := by decide +kernel
theorem dX6_use_33 : decode cX6_use 33 = .ok (.aload_n 3, 1) := by decide +kernel
theorem dX6_use_34 : decode cX6_use 34 = .ok (.getfield 113, 3) := by decide +kernel
theorem dX6_use_37 : decode cX6_use 37 = .ok (.invokestatic 154, 3) := by decide +kernel
theorem dX6_use_40 : decode cX6_use 40 = .ok (.istore 4, 2) := by decide +kernel
theorem dX6_use_42 : decode cX6_use 42 = .ok (.aload_n 3, 1) := by decide +kernel
theorem dX6_use_43 : decode cX6_use 43 = .ok (.dup, 1) := by decide +kernel
theorem dX6_use_44 : decode cX6_use 44 = .ok (.getfield 113, 3) := by decide +kernel
theorem dX6_use_47 : decode cX6_use 47 = .ok (.iload 4, 2) := by decide +kernel
theorem dX6_use_49 : decode cX6_use 49 = .ok (.isub, 1) := by decide +kernel
theorem dX6_use_50 : decode cX6_use 50 = .ok (.putfield 113, 3) := by decide +kernel
theorem dX6_use_53 : decode cX6_use 53 = .ok (.aload_n 0, 1) := by decide +kernel
theorem dX6_use_54 : decode cX6_use 54 = .ok (.getfield 21, 3) := by decide +kernel
theorem dX6_use_57 : decode cX6_use 57 = .ok (.dup, 1) := by decide +kernel
theorem dX6_use_58 : decode cX6_use 58 = .ok (.getfield 162, 3) := by decide +kernel
theorem dX6_use_61 : decode cX6_use 61 = .ok (.iload 4, 2) := by decide +kernel
theorem dX6_use_63 : decode cX6_use 63 = .ok (.iadd, 1) := by decide +kernel
theorem dX6_use_64 : decode cX6_use 64 = .ok (.putfield 162, 3) := by decide +kernel
theorem dX6_use_67 : decode cX6_use 67 = .ok (.iload 4, 2) := by decide +kernel
theorem dX6_use_69 : decode cX6_use 69 = .ok (.ireturn, 1) := by decide +kernel
def wpX6_use_0 (C : CT)   (x1 : Int32) (x2 : Int32) (V : Mem) (Q : Option AV → Mem → Prop) : Prop :=
  (cI C mX6_isRoof [aR 0 0, aI x1] V (fun x_2 V_1 => ((x_2 = 0 → Q (some (aI (-1000000001))) V_1) ∧ (¬ x_2 = 0 → (cI C mX6_isWithin [aI x2, aI 1, aI 999] V_1 (fun x_4 V_3 => ((¬ x_4 = 0 → (∃ j_5 : Nat, x1 = nI j_5 ∧ j_5 < 8 ∧ (∀ z_6 : Int32, z_6 = (if (V_3 3 (8 * 0 + j_5) 4) < x2 then (V_3 3 (8 * 0 + j_5) 4) else x2) → (∀ V_7 : Mem, V_7 = mu V_3 3 (8 * 0 + j_5) 4 ((V_3 3 (8 * 0 + j_5) 4) - z_6) → (∀ V_8 : Mem, V_8 = mu V_7 2 0 15 ((V_7 2 0 15) + z_6) → Q (some (aI z_6)) V_8))))) ∧ (x_4 = 0 → Q (some (aI (-1000000001))) V_3))))))))
set_option maxRecDepth 10000 in
theorem okX6_use_0 {d : Nat} {P : Option AV → Mem → Prop}    (x1 : Int32) (x2 : Int32)  (V : Mem)  (h : wpX6_use_0 (Cl UX d)   x1 x2 V P) : Gq (Kp (d + 1) mX6_use UX P) UX cX6_use 5 RX6 0 [(0, aR 0 0), (1, aI x1), (2, aI x2)] [] V := by
  unfold wpX6_use_0 at h
  refine go_aload_n (q := 0) dX6_use_0 rfl rfl ?_
  refine go_iload_n (q := 1) dX6_use_1 rfl rfl ?_
  refine go_cVI (As := [aI x1]) (st := []) (r := 0) (i := 0) mv_X6_isRoof dX6_use_2 ml_X6_92 (hr_Kp (Nat.le_refl d)) rfl rfl (mX (n := 1) (by decide) rfl (by omega)) rfl rfl (Nat.le_of_ble_eq_true rfl) h (fun x_2 V_1 h => ?_)
  refine go_if_eq (tgt := 19) dX6_use_5 (by decide) (fun c_10 => ?_) (fun c_10 => ?_)
  · have h := h.1 c_10
    refine go_ldc dX6_use_19 ct_X6_83 ?_
    exact go_iret rfl dX6_use_21 h
  · have h := h.2 c_10
    refine go_iload_n (q := 2) dX6_use_8 rfl rfl ?_
    refine go_iconst (v := 1) dX6_use_9 (by decide) ?_
    refine go_sipush (v := 999) dX6_use_10 (by decide) ?_
    refine go_cSI (As := [aI x2, aI 1, aI 999]) (st := []) ms_X6_isWithin dX6_use_13 ml_X6_79 (hr_Kp (Nat.le_refl d)) rfl rfl (Nat.le_of_ble_eq_true rfl) h (fun x_4 V_3 h => ?_)
    refine go_if_ne (tgt := 22) dX6_use_16 (by decide) (fun c_9 => ?_) (fun c_9 => ?_)
    · have h := h.1 c_9
      refine go_aload_n (q := 0) dX6_use_22 rfl rfl ?_
      refine go_getr fg_X6_21 dX6_use_23 (mX (n := 1) (by decide) rfl (by omega)) ?_
      refine go_getr fg_X6_95 dX6_use_26 (mX (n := 3) (by decide) rfl (by omega)) ?_
      refine go_iload_n (q := 1) dX6_use_29 rfl rfl ?_
      obtain ⟨j_5, e_j_5, l_j_5, h⟩ := h
      refine go_aald (r := 13) (n := 8) (j := j_5) rfl rfl (by decide) dX6_use_30 (mX (n := 3) (by decide) rfl (by omega)) e_j_5 l_j_5 ?_
      refine go_astore_n (al1 := [(3, aR 3 (8 * 0 + j_5)), (0, aR 0 0), (1, aI x1), (2, aI x2)]) dX6_use_31 rfl (by decide) rfl ?_
      refine go_iload_n (q := 3) dX6_use_32 rfl rfl ?_
      refine go_aload_n (q := 0) dX6_use_33 rfl rfl ?_
      refine go_geti fg_X6_113 dX6_use_34 (mX (n := 29) (by decide) rfl (by omega)) ?_
      refine go_mmin ml_X6_154 mt_min1 mt_ini mt_min2 (hr_Kp (Nat.zero_le d)) (Nat.le_of_ble_eq_true rfl) dX6_use_37 ?_
      refine nmI (fun z_6 e_z_6 => ?_)
      have h := h z_6 e_z_6
      refine go_istore (al1 := [(4, aI z_6), (3, aR 3 (8 * 0 + j_5)), (0, aR 0 0), (1, aI x1), (2, aI x2)]) dX6_use_40 (by decide) rfl ?_
      refine go_aload_n (q := 1) dX6_use_42 rfl rfl ?_
      refine go_dup dX6_use_43 rfl ?_
      refine go_geti fg_X6_113 dX6_use_44 (mX (n := 29) (by decide) rfl (by omega)) ?_
      refine go_iload (q := 0) dX6_use_47 rfl ?_
      refine go_isub dX6_use_49 ?_
      refine go_puti fp_X6_113 dX6_use_50 (mX (n := 29) (by decide) rfl (by omega)) ?_
      refine nmV (fun V_7 e_V_7 => ?_)
      have h := h V_7 e_V_7
      refine go_aload_n (q := 2) dX6_use_53 rfl rfl ?_
      refine go_getr fg_X6_21 dX6_use_54 (mX (n := 1) (by decide) rfl (by omega)) ?_
      refine go_dup dX6_use_57 rfl ?_
      refine go_geti fg_X6_162 dX6_use_58 (mX (n := 3) (by decide) rfl (by omega)) ?_
      refine go_iload (q := 0) dX6_use_61 rfl ?_
      refine go_iadd dX6_use_63 ?_
      refine go_puti fp_X6_162 dX6_use_64 (mX (n := 3) (by decide) rfl (by omega)) ?_
      refine nmV (fun V_8 e_V_8 => ?_)
      have h := h V_8 e_V_8
      refine go_iload (q := 0) dX6_use_67 rfl ?_
      exact go_iret rfl dX6_use_69 h
    · have h := h.2 c_9
      refine go_ldc dX6_use_19 ct_X6_83 ?_
      exact go_iret rfl dX6_use_21 h
theorem clX6_use {d : Nat} {P : Option AV → Mem → Prop}    (x1 : Int32) (x2 : Int32) (V : Mem)  (h : wpX6_use_0 (Cl UX d)   x1 x2 V P) : Cl UX (d + 1) mX6_use [aR 0 0, aI x1, aI x2] V P :=
  cl_of [(0, aR 0 0), (1, aI x1), (2, aI x2)] (by decide) (fun _ => Nat.le_of_ble_eq_true rfl) (fun _ => rfl) (okX6_use_0   x1 x2 V  h)
theorem dX6_deal_0 : decode cX6_deal 0 = .ok (.iload_n 1, 1) := by decide +kernel
theorem dX6_deal_1 : decode cX6_deal 1 = .ok (.iconst 1, 1) := by decide +kernel
theorem dX6_deal_2 : decode cX6_deal 2 = .ok (.bipush 8, 2) := by decide +kernel
theorem dX6_deal_4 : decode cX6_deal 4 = .ok (.invokestatic 79, 3) := by decide +kernel
theorem dX6_deal_7 : decode cX6_deal 7 = .ok (.ifCond .ne 6, 3) := by decide +kernel
theorem dX6_deal_10 : decode cX6_deal 10 = .ok (.ldc 83, 2) := by decide +kernel
theorem dX6_deal_12 : decode cX6_deal 12 = .ok (.ireturn, 1) := by decide +kernel
theorem dX6_deal_13 : decode cX6_deal 13 = .ok (.iload_n 1, 1) := by decide +kernel
theorem dX6_deal_14 : decode cX6_deal 14 = .ok (.bipush 8, 2) := by decide +kernel
theorem dX6_deal_16 : decode cX6_deal 16 = .ok (.aload_n 0, 1) := by decide +kernel
theorem dX6_deal_17 : decode cX6_deal 17 = .ok (.getfield 21, 3) := by decide +kernel
theorem dX6_deal_20 : decode cX6_deal 20 = .ok (.getfield 84, 3) := by decide +kernel
theorem dX6_deal_23 : decode cX6_deal 23 = .ok (.isub, 1) := by decide +kernel
theorem dX6_deal_24 : decode cX6_deal 24 = .ok (.invokestatic 154, 3) := by decide +kernel
theorem dX6_deal_27 : decode cX6_deal 27 = .ok (.istore_n 2, 1) := by decide +kernel
theorem dX6_deal_28 : decode cX6_deal 28 = .ok (.iconst 0, 1) := by decide +kernel
theorem dX6_deal_29 : decode cX6_deal 29 = .ok (.istore_n 3, 1) := by decide +kernel
theorem dX6_deal_30 : decode cX6_deal 30 = .ok (.iload_n 3, 1) := by decide +kernel
theorem dX6_deal_31 : decode cX6_deal 31 = .ok (.iload_n 2, 1) := by decide +kernel
theorem dX6_deal_32 : decode cX6_deal 32 = .ok (.if_icmp .ge 47, 3) := by decide +kernel
theorem dX6_deal_35 : decode cX6_deal 35 = .ok (.aload_n 0, 1) := by decide +kernel
theorem dX6_deal_36 : decode cX6_deal 36 = .ok (.getfield 21, 3) := by decide +kernel
theorem dX6_deal_39 : decode cX6_deal 39 = .ok (.invokevirtual 165, 3) := by decide +kernel
theorem dX6_deal_42 : decode cX6_deal 42 = .ok (.bipush 6, 2) := by decide +kernel
theorem dX6_deal_44 : decode cX6_deal 44 = .ok (.irem, 1) := by decide +kernel
theorem dX6_deal_45 : decode cX6_deal 45 = .ok (.istore 4, 2) := by decide +kernel
theorem dX6_deal_47 : decode cX6_deal 47 = .ok (.iconst 1, 1) := by decide +kernel
theorem dX6_deal_48 : decode cX6_deal 48 = .ok (.aload_n 0, 1) := by decide +kernel
theorem dX6_deal_49 : decode cX6_deal 49 = .ok (.getfield 21, 3) := by decide +kernel
theorem dX6_deal_52 : decode cX6_deal 52 = .ok (.invokevirtual 165, 3) := by decide +kernel
theorem dX6_deal_55 : decode cX6_deal 55 = .ok (.bipush 9, 2) := by decide +kernel
theorem dX6_deal_57 : decode cX6_deal 57 = .ok (.irem, 1) := by decide +kernel
theorem dX6_deal_58 : decode cX6_deal 58 = .ok (.iadd, 1) := by decide +kernel
theorem dX6_deal_59 : decode cX6_deal 59 = .ok (.istore 5, 2) := by decide +kernel
theorem dX6_deal_61 : decode cX6_deal 61 = .ok (.aload_n 0, 1) := by decide +kernel
theorem dX6_deal_62 : decode cX6_deal 62 = .ok (.getfield 21, 3) := by decide +kernel
theorem dX6_deal_65 : decode cX6_deal 65 = .ok (.iload 4, 2) := by decide +kernel
theorem dX6_deal_67 : decode cX6_deal 67 = .ok (.iload 5, 2) := by decide +kernel
theorem dX6_deal_69 : decode cX6_deal 69 = .ok (.invokevirtual 88, 3) := by decide +kernel
theorem dX6_deal_72 : decode cX6_deal 72 = .ok (.pop, 1) := by decide +kernel
theorem dX6_deal_73 : decode cX6_deal 73 = .ok (.iinc 3 1, 3) := by decide +kernel
theorem dX6_deal_76 : decode cX6_deal 76 = .ok (.goto (-46), 3) := by decide +kernel
theorem dX6_deal_79 : decode cX6_deal 79 = .ok (.iload_n 2, 1) := by decide +kernel
theorem dX6_deal_80 : decode cX6_deal 80 = .ok (.ireturn, 1) := by decide +kernel
def wpX6_deal_30 (C : CT) (I30 : Int32 → Int32 → Int32 → Mem → Prop)  (x1 : Int32) (x2 : Int32) (x3 : Int32) (V : Mem) (Q : Option AV → Mem → Prop) : Prop :=
  ((x2 ≤ x3 → Q (some (aI x2)) V) ∧ (¬ x2 ≤ x3 → (cI C mX5_draw [aR 2 0] V (fun x_2 V_1 => (∀ z_3 : Int32, z_3 = (x_2 - x_2 / 6 * 6) → (cI C mX5_draw [aR 2 0] V_1 (fun x_5 V_4 => (∀ z_6 : Int32, z_6 = (x_5 - x_5 / 9 * 9) → (∀ z_7 : Int32, z_7 = (1 + z_6) → (cI C mX5_addRoof [aR 2 0, aI z_3, aI z_7] V_4 (fun x_9 V_8 => I30 x1 x2 (x3 + 1) V_8)))))))))))
set_option maxRecDepth 10000 in
theorem okX6_deal_30 {d : Nat} {P : Option AV → Mem → Prop} {I30 : Int32 → Int32 → Int32 → Mem → Prop}   (x1 : Int32) (x2 : Int32) (x3 : Int32)  (V : Mem) (hk30 : ∀ (x1 : Int32) (x2 : Int32) (x3 : Int32), ∀ (V : Mem), I30 x1 x2 x3 V → Gq (Kp (d + 1) mX6_deal UX P) UX cX6_deal 6 RX6 30 [(0, aR 0 0), (1, aI x1), (2, aI x2), (3, aI x3)] [] V) (h : wpX6_deal_30 (Cl UX d) I30  x1 x2 x3 V P) : Gq (Kp (d + 1) mX6_deal UX P) UX cX6_deal 6 RX6 30 [(0, aR 0 0), (1, aI x1), (2, aI x2), (3, aI x3)] [] V := by
  unfold wpX6_deal_30 at h
  refine go_iload_n (q := 3) dX6_deal_30 rfl rfl ?_
  refine go_iload_n (q := 2) dX6_deal_31 rfl rfl ?_
  refine go_icmp_ge (tgt := 79) dX6_deal_32 (by decide) (fun c_10 => ?_) (fun c_10 => ?_)
  · have h := h.1 c_10
    refine go_iload_n (q := 2) dX6_deal_79 rfl rfl ?_
    exact go_iret rfl dX6_deal_80 h
  · have h := h.2 c_10
    refine go_aload_n (q := 0) dX6_deal_35 rfl rfl ?_
    refine go_getr fg_X6_21 dX6_deal_36 (mX (n := 1) (by decide) rfl (by omega)) ?_
    refine go_cVI (As := []) (st := []) (r := 2) (i := 0) mv_X5_draw dX6_deal_39 ml_X6_165 (hr_Kp (Nat.le_refl d)) rfl rfl (mX (n := 3) (by decide) rfl (by omega)) rfl rfl (Nat.le_of_ble_eq_true rfl) h (fun x_2 V_1 h => ?_)
    refine go_bipush (v := 6) dX6_deal_42 (by decide) ?_
    refine go_irem dX6_deal_44 (by decide) ?_
    refine nmI (fun z_3 e_z_3 => ?_)
    have h := h z_3 e_z_3
    refine go_istore (al1 := [(4, aI z_3), (0, aR 0 0), (1, aI x1), (2, aI x2), (3, aI x3)]) dX6_deal_45 (by decide) rfl ?_
    refine go_iconst (v := 1) dX6_deal_47 (by decide) ?_
    refine go_aload_n (q := 1) dX6_deal_48 rfl rfl ?_
    refine go_getr fg_X6_21 dX6_deal_49 (mX (n := 1) (by decide) rfl (by omega)) ?_
    refine go_cVI (As := []) (st := [aI 1]) (r := 2) (i := 0) mv_X5_draw dX6_deal_52 ml_X6_165 (hr_Kp (Nat.le_refl d)) rfl rfl (mX (n := 3) (by decide) rfl (by omega)) rfl rfl (Nat.le_of_ble_eq_true rfl) h (fun x_5 V_4 h => ?_)
    refine go_bipush (v := 9) dX6_deal_55 (by decide) ?_
    refine go_irem dX6_deal_57 (by decide) ?_
    refine nmI (fun z_6 e_z_6 => ?_)
    have h := h z_6 e_z_6
    refine go_iadd dX6_deal_58 ?_
    refine nmI (fun z_7 e_z_7 => ?_)
    have h := h z_7 e_z_7
    refine go_istore (al1 := [(5, aI z_7), (4, aI z_3), (0, aR 0 0), (1, aI x1), (2, aI x2), (3, aI x3)]) dX6_deal_59 (by decide) rfl ?_
    refine go_aload_n (q := 2) dX6_deal_61 rfl rfl ?_
    refine go_getr fg_X6_21 dX6_deal_62 (mX (n := 1) (by decide) rfl (by omega)) ?_
    refine go_iload (q := 1) dX6_deal_65 rfl ?_
    refine go_iload (q := 0) dX6_deal_67 rfl ?_
    refine go_cVI (As := [aI z_3, aI z_7]) (st := []) (r := 2) (i := 0) mv_X5_addRoof dX6_deal_69 ml_X6_88 (hr_Kp (Nat.le_refl d)) rfl rfl (mX (n := 3) (by decide) rfl (by omega)) rfl rfl (Nat.le_of_ble_eq_true rfl) h (fun x_9 V_8 h => ?_)
    refine go_pop dX6_deal_72 rfl ?_
    refine go_iinc (q := 5) (y := 1) (al1 := [(3, aI (x3 + 1)), (5, aI z_7), (4, aI z_3), (0, aR 0 0), (1, aI x1), (2, aI x2)]) dX6_deal_73 rfl (by decide) (by decide) rfl ?_
    refine go_goto (tgt := 30) dX6_deal_76 (by decide) ?_
    refine go_sub (al1 := [(0, aR 0 0), (1, aI x1), (2, aI x2), (3, aI (x3 + 1))]) [3, 4, 5, 0] rfl ?_
    exact hk30 x1 x2 (x3 + 1)  V_8 h
def wpX6_deal_0 (C : CT) (I30 : Int32 → Int32 → Int32 → Mem → Prop)  (x1 : Int32) (V : Mem) (Q : Option AV → Mem → Prop) : Prop :=
  (cI C mX6_isWithin [aI x1, aI 1, aI 8] V (fun x_2 V_1 => ((¬ x_2 = 0 → (∀ z_3 : Int32, z_3 = (if (8 - (V_1 2 0 6)) < x1 then (8 - (V_1 2 0 6)) else x1) → I30 x1 z_3 0 V_1)) ∧ (x_2 = 0 → Q (some (aI (-1000000001))) V_1))))
set_option maxRecDepth 10000 in
theorem okX6_deal_0 {d : Nat} {P : Option AV → Mem → Prop} {I30 : Int32 → Int32 → Int32 → Mem → Prop}   (x1 : Int32)  (V : Mem) (hk30 : ∀ (x1 : Int32) (x2 : Int32) (x3 : Int32), ∀ (V : Mem), I30 x1 x2 x3 V → Gq (Kp (d + 1) mX6_deal UX P) UX cX6_deal 6 RX6 30 [(0, aR 0 0), (1, aI x1), (2, aI x2), (3, aI x3)] [] V) (h : wpX6_deal_0 (Cl UX d) I30  x1 V P) : Gq (Kp (d + 1) mX6_deal UX P) UX cX6_deal 6 RX6 0 [(0, aR 0 0), (1, aI x1)] [] V := by
  unfold wpX6_deal_0 at h
  refine go_iload_n (q := 1) dX6_deal_0 rfl rfl ?_
  refine go_iconst (v := 1) dX6_deal_1 (by decide) ?_
  refine go_bipush (v := 8) dX6_deal_2 (by decide) ?_
  refine go_cSI (As := [aI x1, aI 1, aI 8]) (st := []) ms_X6_isWithin dX6_deal_4 ml_X6_79 (hr_Kp (Nat.le_refl d)) rfl rfl (Nat.le_of_ble_eq_true rfl) h (fun x_2 V_1 h => ?_)
  refine go_if_ne (tgt := 13) dX6_deal_7 (by decide) (fun c_4 => ?_) (fun c_4 => ?_)
  · have h := h.1 c_4
    refine go_iload_n (q := 1) dX6_deal_13 rfl rfl ?_
    refine go_bipush (v := 8) dX6_deal_14 (by decide) ?_
    refine go_aload_n (q := 0) dX6_deal_16 rfl rfl ?_
    refine go_getr fg_X6_21 dX6_deal_17 (mX (n := 1) (by decide) rfl (by omega)) ?_
    refine go_geti fg_X6_84 dX6_deal_20 (mX (n := 3) (by decide) rfl (by omega)) ?_
    refine go_isub dX6_deal_23 ?_
    refine go_mmin ml_X6_154 mt_min1 mt_ini mt_min2 (hr_Kp (Nat.zero_le d)) (Nat.le_of_ble_eq_true rfl) dX6_deal_24 ?_
    refine nmI (fun z_3 e_z_3 => ?_)
    have h := h z_3 e_z_3
    refine go_istore_n (al1 := [(2, aI z_3), (0, aR 0 0), (1, aI x1)]) dX6_deal_27 rfl (by decide) rfl ?_
    refine go_iconst (v := 0) dX6_deal_28 (by decide) ?_
    refine go_istore_n (al1 := [(3, aI 0), (2, aI z_3), (0, aR 0 0), (1, aI x1)]) dX6_deal_29 rfl (by decide) rfl ?_
    refine go_sub (al1 := [(0, aR 0 0), (1, aI x1), (2, aI z_3), (3, aI 0)]) [2, 3, 1, 0] rfl ?_
    exact hk30 x1 z_3 0  V_1 h
  · have h := h.2 c_4
    refine go_ldc dX6_deal_10 ct_X6_83 ?_
    exact go_iret rfl dX6_deal_12 h
theorem clX6_deal {d : Nat} {P : Option AV → Mem → Prop} {I30 : Int32 → Int32 → Int32 → Mem → Prop}   (x1 : Int32) (V : Mem) (hk30 : ∀ (x1 : Int32) (x2 : Int32) (x3 : Int32), ∀ (V : Mem), I30 x1 x2 x3 V → Gq (Kp (d + 1) mX6_deal UX P) UX cX6_deal 6 RX6 30 [(0, aR 0 0), (1, aI x1), (2, aI x2), (3, aI x3)] [] V) (h : wpX6_deal_0 (Cl UX d) I30  x1 V P) : Cl UX (d + 1) mX6_deal [aR 0 0, aI x1] V P :=
  cl_of [(0, aR 0 0), (1, aI x1)] (by decide) (fun _ => Nat.le_of_ble_eq_true rfl) (fun _ => rfl) (okX6_deal_0   x1 V hk30 h)
theorem dX6_seed_0 : decode cX6_seed 0 = .ok (.aload_n 0, 1) := by decide +kernel
theorem dX6_seed_1 : decode cX6_seed 1 = .ok (.getfield 21, 3) := by decide +kernel
theorem dX6_seed_4 : decode cX6_seed 4 = .ok (.getfield 168, 3) := by decide +kernel
theorem dX6_seed_7 : decode cX6_seed 7 = .ok (.istore_n 2, 1) := by decide +kernel
theorem dX6_seed_8 : decode cX6_seed 8 = .ok (.aload_n 0, 1) := by decide +kernel
theorem dX6_seed_9 : decode cX6_seed 9 = .ok (.getfield 21, 3) := by decide +kernel
theorem dX6_seed_12 : decode cX6_seed 12 = .ok (.iload_n 1, 1) := by decide +kernel
theorem dX6_seed_13 : decode cX6_seed 13 = .ok (.putfield 168, 3) := by decide +kernel
theorem dX6_seed_16 : decode cX6_seed 16 = .ok (.iload_n 2, 1) := by decide +kernel
theorem dX6_seed_17 : decode cX6_seed 17 = .ok (.ireturn, 1) := by decide +kernel
def wpX6_seed_0 (C : CT)   (x1 : Int32) (V : Mem) (Q : Option AV → Mem → Prop) : Prop :=
  (∀ z_1 : Int32, z_1 = (V 2 0 9) → (∀ V_2 : Mem, V_2 = mu V 2 0 9 x1 → Q (some (aI z_1)) V_2))
set_option maxRecDepth 10000 in
theorem okX6_seed_0 {d : Nat} {P : Option AV → Mem → Prop}    (x1 : Int32)  (V : Mem)  (h : wpX6_seed_0 (Cl UX d)   x1 V P) : Gq (Kp (d + 1) mX6_seed UX P) UX cX6_seed 3 RX6 0 [(0, aR 0 0), (1, aI x1)] [] V := by
  unfold wpX6_seed_0 at h
  refine go_aload_n (q := 0) dX6_seed_0 rfl rfl ?_
  refine go_getr fg_X6_21 dX6_seed_1 (mX (n := 1) (by decide) rfl (by omega)) ?_
  refine go_geti fg_X6_168 dX6_seed_4 (mX (n := 3) (by decide) rfl (by omega)) ?_
  refine nmI (fun z_1 e_z_1 => ?_)
  have h := h z_1 e_z_1
  refine go_istore_n (al1 := [(2, aI z_1), (0, aR 0 0), (1, aI x1)]) dX6_seed_7 rfl (by decide) rfl ?_
  refine go_aload_n (q := 1) dX6_seed_8 rfl rfl ?_
  refine go_getr fg_X6_21 dX6_seed_9 (mX (n := 1) (by decide) rfl (by omega)) ?_
  refine go_iload_n (q := 2) dX6_seed_12 rfl rfl ?_
  refine go_puti fp_X6_168 dX6_seed_13 (mX (n := 3) (by decide) rfl (by omega)) ?_
  refine nmV (fun V_2 e_V_2 => ?_)
  have h := h V_2 e_V_2
  refine go_iload_n (q := 0) dX6_seed_16 rfl rfl ?_
  exact go_iret rfl dX6_seed_17 h
theorem clX6_seed {d : Nat} {P : Option AV → Mem → Prop}    (x1 : Int32) (V : Mem)  (h : wpX6_seed_0 (Cl UX d)   x1 V P) : Cl UX (d + 1) mX6_seed [aR 0 0, aI x1] V P :=
  cl_of [(0, aR 0 0), (1, aI x1)] (by decide) (fun _ => Nat.le_of_ble_eq_true rfl) (fun _ => rfl) (okX6_seed_0   x1 V  h)
theorem dX6_weather_0 : decode cX6_weather 0 = .ok (.iload_n 1, 1) := by decide +kernel
theorem dX6_weather_1 : decode cX6_weather 1 = .ok (.iconst 0, 1) := by decide +kernel
theorem dX6_weather_2 : decode cX6_weather 2 = .ok (.bipush 23, 2) := by decide +kernel
theorem dX6_weather_4 : decode cX6_weather 4 = .ok (.invokestatic 79, 3) := by decide +kernel
theorem dX6_weather_7 : decode cX6_weather 7 = .ok (.ifCond .ne 6, 3) := by decide +kernel
theorem dX6_weather_10 : decode cX6_weather 10 = .ok (.ldc 83, 2) := by decide +kernel
theorem dX6_weather_12 : decode cX6_weather 12 = .ok (.ireturn, 1) := by decide +kernel
theorem dX6_weather_13 : decode cX6_weather 13 = .ok (.iload_n 2, 1) := by decide +kernel
theorem dX6_weather_14 : decode cX6_weather 14 = .ok (.lookupswitch 83 #[(0, 26), (1, 55)], 26) := by decide +kernel
theorem dX6_weather_40 : decode cX6_weather 40 = .ok (.iload_n 3, 1) := by decide +kernel
theorem dX6_weather_41 : decode cX6_weather 41 = .ok (.bipush (-20), 2) := by decide +kernel
theorem dX6_weather_43 : decode cX6_weather 43 = .ok (.bipush 20, 2) := by decide +kernel
theorem dX6_weather_45 : decode cX6_weather 45 = .ok (.invokestatic 79, 3) := by decide +kernel
theorem dX6_weather_48 : decode cX6_weather 48 = .ok (.ifCond .eq 18, 3) := by decide +kernel
theorem dX6_weather_51 : decode cX6_weather 51 = .ok (.aload_n 0, 1) := by decide +kernel
theorem dX6_weather_52 : decode cX6_weather 52 = .ok (.getfield 21, 3) := by decide +kernel
theorem dX6_weather_55 : decode cX6_weather 55 = .ok (.getfield 171, 3) := by decide +kernel
theorem dX6_weather_58 : decode cX6_weather 58 = .ok (.iload_n 1, 1) := by decide +kernel
theorem dX6_weather_59 : decode cX6_weather 59 = .ok (.iload_n 3, 1) := by decide +kernel
theorem dX6_weather_60 : decode cX6_weather 60 = .ok (.invokestatic 174, 3) := by decide +kernel
theorem dX6_weather_63 : decode cX6_weather 63 = .ok (.goto 5, 3) := by decide +kernel
theorem dX6_weather_66 : decode cX6_weather 66 = .ok (.ldc 83, 2) := by decide +kernel
theorem dX6_weather_68 : decode cX6_weather 68 = .ok (.ireturn, 1) := by decide +kernel
theorem dX6_weather_69 : decode cX6_weather 69 = .ok (.iload_n 3, 1) := by decide +kernel
theorem dX6_weather_70 : decode cX6_weather 70 = .ok (.iconst 0, 1) := by decide +kernel
theorem dX6_weather_71 : decode cX6_weather 71 = .ok (.bipush 9, 2) := by decide +kernel
theorem dX6_weather_73 : decode cX6_weather 73 = .ok (.invokestatic 79, 3) := by decide +kernel
theorem dX6_weather_76 : decode cX6_weather 76 = .ok (.ifCond .eq 18, 3) := by decide +kernel
theorem dX6_weather_79 : decode cX6_weather 79 = .ok (.aload_n 0, 1) := by decide +kernel
theorem dX6_weather_80 : decode cX6_weather 80 = .ok (.getfield 21, 3) := by decide +kernel
theorem dX6_weather_83 : decode cX6_weather 83 = .ok (.getfield 178, 3) := by decide +kernel
theorem dX6_weather_86 : decode cX6_weather 86 = .ok (.iload_n 1, 1) := by decide +kernel
theorem dX6_weather_87 : decode cX6_weather 87 = .ok (.iload_n 3, 1) := by decide +kernel
theorem dX6_weather_88 : decode cX6_weather 88 = .ok (.invokestatic 174, 3) := by decide +kernel
theorem dX6_weather_91 : decode cX6_weather 91 = .ok (.goto 5, 3) := by decide +kernel
theorem dX6_weather_94 : decode cX6_weather 94 = .ok (.ldc 83, 2) := by decide +kernel
theorem dX6_weather_96 : decode cX6_weather 96 = .ok (.ireturn, 1) := by decide +kernel
theorem dX6_weather_97 : decode cX6_weather 97 = .ok (.ldc 83, 2) := by decide +kernel
theorem dX6_weather_99 : decode cX6_weather 99 = .ok (.ireturn, 1) := by decide +kernel
def wpX6_weather_0 (C : CT)   (x1 : Int32) (x2 : Int32) (x3 : Int32) (V : Mem) (Q : Option AV → Mem → Prop) : Prop :=
  (cI C mX6_isWithin [aI x1, aI 0, aI 23] V (fun x_2 V_1 => ((¬ x_2 = 0 → ((x2 = 0 → (cI C mX6_isWithin [aI x3, aI (-20), aI 20] V_1 (fun x_4 V_3 => ((x_4 = 0 → Q (some (aI (-1000000001))) V_3) ∧ (¬ x_4 = 0 → (cI C mX6_change [aR 14 0, aI x1, aI x3] V_3 (fun x_6 V_5 => Q (some (aI x_6)) V_5))))))) ∧ (x2 = 1 → (cI C mX6_isWithin [aI x3, aI 0, aI 9] V_1 (fun x_9 V_8 => ((x_9 = 0 → Q (some (aI (-1000000001))) V_8) ∧ (¬ x_9 = 0 → (cI C mX6_change [aR 15 0, aI x1, aI x3] V_8 (fun x_11 V_10 => Q (some (aI x_11)) V_10))))))) ∧ (¬ x2 = 0 ∧ ¬ x2 = 1 → Q (some (aI (-1000000001))) V_1))) ∧ (x_2 = 0 → Q (some (aI (-1000000001))) V_1))))
set_option maxRecDepth 10000 in
theorem okX6_weather_0 {d : Nat} {P : Option AV → Mem → Prop}    (x1 : Int32) (x2 : Int32) (x3 : Int32)  (V : Mem)  (h : wpX6_weather_0 (Cl UX d)   x1 x2 x3 V P) : Gq (Kp (d + 1) mX6_weather UX P) UX cX6_weather 4 RX6 0 [(0, aR 0 0), (1, aI x1), (2, aI x2), (3, aI x3)] [] V := by
  unfold wpX6_weather_0 at h
  refine go_iload_n (q := 1) dX6_weather_0 rfl rfl ?_
  refine go_iconst (v := 0) dX6_weather_1 (by decide) ?_
  refine go_bipush (v := 23) dX6_weather_2 (by decide) ?_
  refine go_cSI (As := [aI x1, aI 0, aI 23]) (st := []) ms_X6_isWithin dX6_weather_4 ml_X6_79 (hr_Kp (Nat.le_refl d)) rfl rfl (Nat.le_of_ble_eq_true rfl) h (fun x_2 V_1 h => ?_)
  refine go_if_ne (tgt := 13) dX6_weather_7 (by decide) (fun c_13 => ?_) (fun c_13 => ?_)
  · have h := h.1 c_13
    refine go_iload_n (q := 2) dX6_weather_13 rfl rfl ?_
    by_cases c14_0 : x2 = 0
    · have h := h.1 c14_0
      refine go_lookC (z := 0) (off := 26) (tgt := 40) c14_0 dX6_weather_14 (by decide) (by decide) (by decide) ?_
      refine go_iload_n (q := 3) dX6_weather_40 rfl rfl ?_
      refine go_bipush (v := (-20)) dX6_weather_41 (by decide) ?_
      refine go_bipush (v := 20) dX6_weather_43 (by decide) ?_
      refine go_cSI (As := [aI x3, aI (-20), aI 20]) (st := []) ms_X6_isWithin dX6_weather_45 ml_X6_79 (hr_Kp (Nat.le_refl d)) rfl rfl (Nat.le_of_ble_eq_true rfl) h (fun x_4 V_3 h => ?_)
      refine go_if_eq (tgt := 66) dX6_weather_48 (by decide) (fun c_7 => ?_) (fun c_7 => ?_)
      · have h := h.1 c_7
        refine go_ldc dX6_weather_66 ct_X6_83 ?_
        exact go_iret rfl dX6_weather_68 h
      · have h := h.2 c_7
        refine go_aload_n (q := 0) dX6_weather_51 rfl rfl ?_
        refine go_getr fg_X6_21 dX6_weather_52 (mX (n := 1) (by decide) rfl (by omega)) ?_
        refine go_getr fg_X6_171 dX6_weather_55 (mX (n := 3) (by decide) rfl (by omega)) ?_
        refine go_iload_n (q := 1) dX6_weather_58 rfl rfl ?_
        refine go_iload_n (q := 3) dX6_weather_59 rfl rfl ?_
        refine go_cSI (As := [aR 14 0, aI x1, aI x3]) (st := []) ms_X6_change dX6_weather_60 ml_X6_174 (hr_Kp (Nat.le_refl d)) rfl rfl (Nat.le_of_ble_eq_true rfl) h (fun x_6 V_5 h => ?_)
        refine go_goto (tgt := 68) dX6_weather_63 (by decide) ?_
        exact go_iret rfl dX6_weather_68 h
    by_cases c14_1 : x2 = 1
    · have h := h.2.1 c14_1
      refine go_lookC (z := 1) (off := 55) (tgt := 69) c14_1 dX6_weather_14 (by decide) (by decide) (by decide) ?_
      refine go_iload_n (q := 3) dX6_weather_69 rfl rfl ?_
      refine go_iconst (v := 0) dX6_weather_70 (by decide) ?_
      refine go_bipush (v := 9) dX6_weather_71 (by decide) ?_
      refine go_cSI (As := [aI x3, aI 0, aI 9]) (st := []) ms_X6_isWithin dX6_weather_73 ml_X6_79 (hr_Kp (Nat.le_refl d)) rfl rfl (Nat.le_of_ble_eq_true rfl) h (fun x_9 V_8 h => ?_)
      refine go_if_eq (tgt := 94) dX6_weather_76 (by decide) (fun c_12 => ?_) (fun c_12 => ?_)
      · have h := h.1 c_12
        refine go_ldc dX6_weather_94 ct_X6_83 ?_
        exact go_iret rfl dX6_weather_96 h
      · have h := h.2 c_12
        refine go_aload_n (q := 0) dX6_weather_79 rfl rfl ?_
        refine go_getr fg_X6_21 dX6_weather_80 (mX (n := 1) (by decide) rfl (by omega)) ?_
        refine go_getr fg_X6_178 dX6_weather_83 (mX (n := 3) (by decide) rfl (by omega)) ?_
        refine go_iload_n (q := 1) dX6_weather_86 rfl rfl ?_
        refine go_iload_n (q := 3) dX6_weather_87 rfl rfl ?_
        refine go_cSI (As := [aR 15 0, aI x1, aI x3]) (st := []) ms_X6_change dX6_weather_88 ml_X6_174 (hr_Kp (Nat.le_refl d)) rfl rfl (Nat.le_of_ble_eq_true rfl) h (fun x_11 V_10 h => ?_)
        refine go_goto (tgt := 96) dX6_weather_91 (by decide) ?_
        exact go_iret rfl dX6_weather_96 h
    have h := h.2.2 ⟨c14_0, c14_1⟩
    refine go_lookup (off := 83) (tgt := 97) dX6_weather_14 (by decide) (by show Op.lookupswitch.offset [(0, 26), (1, 55)] _ _ = _; rw [lv_osw c14_0 (show (0 : Int32).toInt = 0 from rfl), lv_osw c14_1 (show (1 : Int32).toInt = 1 from rfl)]; rfl) (by decide) ?_
    refine go_ldc dX6_weather_97 ct_X6_83 ?_
    exact go_iret rfl dX6_weather_99 h
  · have h := h.2 c_13
    refine go_ldc dX6_weather_10 ct_X6_83 ?_
    exact go_iret rfl dX6_weather_12 h
theorem clX6_weather {d : Nat} {P : Option AV → Mem → Prop}    (x1 : Int32) (x2 : Int32) (x3 : Int32) (V : Mem)  (h : wpX6_weather_0 (Cl UX d)   x1 x2 x3 V P) : Cl UX (d + 1) mX6_weather [aR 0 0, aI x1, aI x2, aI x3] V P :=
  cl_of [(0, aR 0 0), (1, aI x1), (2, aI x2), (3, aI x3)] (by decide) (fun _ => Nat.le_of_ble_eq_true rfl) (fun _ => rfl) (okX6_weather_0   x1 x2 x3 V  h)
theorem dX6_sky_0 : decode cX6_sky 0 = .ok (.iconst 0, 1) := by decide +kernel
theorem dX6_sky_1 : decode cX6_sky 1 = .ok (.istore_n 1, 1) := by decide +kernel
theorem dX6_sky_2 : decode cX6_sky 2 = .ok (.iconst 0, 1) := by decide +kernel
theorem dX6_sky_3 : decode cX6_sky 3 = .ok (.istore_n 2, 1) := by decide +kernel
theorem dX6_sky_4 : decode cX6_sky 4 = .ok (.iload_n 2, 1) := by decide +kernel
theorem dX6_sky_5 : decode cX6_sky 5 = .ok (.bipush 24, 2) := by decide +kernel
theorem dX6_sky_7 : decode cX6_sky 7 = .ok (.if_icmp .ge 62, 3) := by decide +kernel
theorem dX6_sky_10 : decode cX6_sky 10 = .ok (.aload_n 0, 1) := by decide +kernel
theorem dX6_sky_11 : decode cX6_sky 11 = .ok (.getfield 21, 3) := by decide +kernel
theorem dX6_sky_14 : decode cX6_sky 14 = .ok (.getfield 171, 3) := by decide +kernel
theorem dX6_sky_17 : decode cX6_sky 17 = .ok (.iload_n 2, 1) := by decide +kernel
theorem dX6_sky_18 : decode cX6_sky 18 = .ok (.aload_n 0, 1) := by decide +kernel
theorem dX6_sky_19 : decode cX6_sky 19 = .ok (.getfield 21, 3) := by decide +kernel
theorem dX6_sky_22 : decode cX6_sky 22 = .ok (.invokevirtual 165, 3) := by decide +kernel
theorem dX6_sky_25 : decode cX6_sky 25 = .ok (.bipush 21, 2) := by decide +kernel
theorem dX6_sky_27 : decode cX6_sky 27 = .ok (.irem, 1) := by decide +kernel
theorem dX6_sky_28 : decode cX6_sky 28 = .ok (.bipush 10, 2) := by decide +kernel
theorem dX6_sky_30 : decode cX6_sky 30 = .ok (.isub, 1) := by decide +kernel
theorem dX6_sky_31 : decode cX6_sky 31 = .ok (.iastore, 1) := by decide +kernel
theorem dX6_sky_32 : decode cX6_sky 32 = .ok (.aload_n 0, 1) := by decide +kernel
theorem dX6_sky_33 : decode cX6_sky 33 = .ok (.getfield 21, 3) := by decide +kernel
theorem dX6_sky_36 : decode cX6_sky 36 = .ok (.getfield 178, 3) := by decide +kernel
theorem dX6_sky_39 : decode cX6_sky 39 = .ok (.iload_n 2, 1) := by decide +kernel
theorem dX6_sky_40 : decode cX6_sky 40 = .ok (.aload_n 0, 1) := by decide +kernel
theorem dX6_sky_41 : decode cX6_sky 41 = .ok (.getfield 21, 3) := by decide +kernel
theorem dX6_sky_44 : decode cX6_sky 44 = .ok (.invokevirtual 165, 3) := by decide +kernel
theorem dX6_sky_47 : decode cX6_sky 47 = .ok (.bipush 10, 2) := by decide +kernel
theorem dX6_sky_49 : decode cX6_sky 49 = .ok (.irem, 1) := by decide +kernel
theorem dX6_sky_50 : decode cX6_sky 50 = .ok (.iastore, 1) := by decide +kernel
theorem dX6_sky_51 : decode cX6_sky 51 = .ok (.iload_n 1, 1) := by decide +kernel
theorem dX6_sky_52 : decode cX6_sky 52 = .ok (.aload_n 0, 1) := by decide +kernel
theorem dX6_sky_53 : decode cX6_sky 53 = .ok (.getfield 21, 3) := by decide +kernel
theorem dX6_sky_56 : decode cX6_sky 56 = .ok (.getfield 178, 3) := by decide +kernel
theorem dX6_sky_59 : decode cX6_sky 59 = .ok (.iload_n 2, 1) := by decide +kernel
theorem dX6_sky_60 : decode cX6_sky 60 = .ok (.iaload, 1) := by decide +kernel
theorem dX6_sky_61 : decode cX6_sky 61 = .ok (.iadd, 1) := by decide +kernel
theorem dX6_sky_62 : decode cX6_sky 62 = .ok (.istore_n 1, 1) := by decide +kernel
theorem dX6_sky_63 : decode cX6_sky 63 = .ok (.iinc 2 1, 3) := by decide +kernel
theorem dX6_sky_66 : decode cX6_sky 66 = .ok (.goto (-62), 3) := by decide +kernel
theorem dX6_sky_69 : decode cX6_sky 69 = .ok (.iload_n 1, 1) := by decide +kernel
theorem dX6_sky_70 : decode cX6_sky 70 = .ok (.ireturn, 1) := by decide +kernel
def wpX6_sky_4 (C : CT) (I4 : Int32 → Int32 → Mem → Prop)  (x1 : Int32) (x2 : Int32) (V : Mem) (Q : Option AV → Mem → Prop) : Prop :=
  ((24 ≤ x2 → Q (some (aI x1)) V) ∧ (¬ 24 ≤ x2 → (cI C mX5_draw [aR 2 0] V (fun x_2 V_1 => (∀ z_3 : Int32, z_3 = (x_2 - x_2 / 21 * 21) → (∃ j_4 : Nat, x2 = nI j_4 ∧ j_4 < 24 ∧ (∀ V_5 : Mem, V_5 = mu V_1 14 0 j_4 (z_3 - 10) → (cI C mX5_draw [aR 2 0] V_5 (fun x_7 V_6 => (∀ z_8 : Int32, z_8 = (x_7 - x_7 / 10 * 10) → (∀ V_9 : Mem, V_9 = mu V_6 15 0 j_4 z_8 → (∀ z_10 : Int32, z_10 = (x1 + (V_9 15 0 j_4)) → I4 z_10 (x2 + 1) V_9))))))))))))
set_option maxRecDepth 10000 in
theorem okX6_sky_4 {d : Nat} {P : Option AV → Mem → Prop} {I4 : Int32 → Int32 → Mem → Prop}   (x1 : Int32) (x2 : Int32)  (V : Mem) (hk4 : ∀ (x1 : Int32) (x2 : Int32), ∀ (V : Mem), I4 x1 x2 V → Gq (Kp (d + 1) mX6_sky UX P) UX cX6_sky 3 RX6 4 [(0, aR 0 0), (1, aI x1), (2, aI x2)] [] V) (h : wpX6_sky_4 (Cl UX d) I4  x1 x2 V P) : Gq (Kp (d + 1) mX6_sky UX P) UX cX6_sky 3 RX6 4 [(0, aR 0 0), (1, aI x1), (2, aI x2)] [] V := by
  unfold wpX6_sky_4 at h
  refine go_iload_n (q := 2) dX6_sky_4 rfl rfl ?_
  refine go_bipush (v := 24) dX6_sky_5 (by decide) ?_
  refine go_icmp_ge (tgt := 69) dX6_sky_7 (by decide) (fun c_11 => ?_) (fun c_11 => ?_)
  · have h := h.1 c_11
    refine go_iload_n (q := 1) dX6_sky_69 rfl rfl ?_
    exact go_iret rfl dX6_sky_70 h
  · have h := h.2 c_11
    refine go_aload_n (q := 0) dX6_sky_10 rfl rfl ?_
    refine go_getr fg_X6_21 dX6_sky_11 (mX (n := 1) (by decide) rfl (by omega)) ?_
    refine go_getr fg_X6_171 dX6_sky_14 (mX (n := 3) (by decide) rfl (by omega)) ?_
    refine go_iload_n (q := 2) dX6_sky_17 rfl rfl ?_
    refine go_aload_n (q := 0) dX6_sky_18 rfl rfl ?_
    refine go_getr fg_X6_21 dX6_sky_19 (mX (n := 1) (by decide) rfl (by omega)) ?_
    refine go_cVI (As := []) (st := [aI x2, aR 14 0]) (r := 2) (i := 0) mv_X5_draw dX6_sky_22 ml_X6_165 (hr_Kp (Nat.le_refl d)) rfl rfl (mX (n := 3) (by decide) rfl (by omega)) rfl rfl (Nat.le_of_ble_eq_true rfl) h (fun x_2 V_1 h => ?_)
    refine go_bipush (v := 21) dX6_sky_25 (by decide) ?_
    refine go_irem dX6_sky_27 (by decide) ?_
    refine nmI (fun z_3 e_z_3 => ?_)
    have h := h z_3 e_z_3
    refine go_bipush (v := 10) dX6_sky_28 (by decide) ?_
    refine go_isub dX6_sky_30 ?_
    obtain ⟨j_4, e_j_4, l_j_4, h⟩ := h
    refine go_iast (r := 14) (n := 24) (j := j_4) rfl (by decide) dX6_sky_31 (mX (n := 3) (by decide) rfl (by omega)) e_j_4 l_j_4 ?_
    refine nmV (fun V_5 e_V_5 => ?_)
    have h := h V_5 e_V_5
    refine go_aload_n (q := 0) dX6_sky_32 rfl rfl ?_
    refine go_getr fg_X6_21 dX6_sky_33 (mX (n := 1) (by decide) rfl (by omega)) ?_
    refine go_getr fg_X6_178 dX6_sky_36 (mX (n := 3) (by decide) rfl (by omega)) ?_
    refine go_iload_n (q := 2) dX6_sky_39 rfl rfl ?_
    refine go_aload_n (q := 0) dX6_sky_40 rfl rfl ?_
    refine go_getr fg_X6_21 dX6_sky_41 (mX (n := 1) (by decide) rfl (by omega)) ?_
    refine go_cVI (As := []) (st := [aI x2, aR 15 0]) (r := 2) (i := 0) mv_X5_draw dX6_sky_44 ml_X6_165 (hr_Kp (Nat.le_refl d)) rfl rfl (mX (n := 3) (by decide) rfl (by omega)) rfl rfl (Nat.le_of_ble_eq_true rfl) h (fun x_7 V_6 h => ?_)
    refine go_bipush (v := 10) dX6_sky_47 (by decide) ?_
    refine go_irem dX6_sky_49 (by decide) ?_
    refine nmI (fun z_8 e_z_8 => ?_)
    have h := h z_8 e_z_8
    refine go_iast (r := 15) (n := 24) (j := j_4) rfl (by decide) dX6_sky_50 (mX (n := 3) (by decide) rfl (by omega)) e_j_4 (by omega) ?_
    refine nmV (fun V_9 e_V_9 => ?_)
    have h := h V_9 e_V_9
    refine go_iload_n (q := 1) dX6_sky_51 rfl rfl ?_
    refine go_aload_n (q := 0) dX6_sky_52 rfl rfl ?_
    refine go_getr fg_X6_21 dX6_sky_53 (mX (n := 1) (by decide) rfl (by omega)) ?_
    refine go_getr fg_X6_178 dX6_sky_56 (mX (n := 3) (by decide) rfl (by omega)) ?_
    refine go_iload_n (q := 2) dX6_sky_59 rfl rfl ?_
    refine go_iald (r := 15) (n := 24) (j := j_4) rfl (by decide) dX6_sky_60 (mX (n := 3) (by decide) rfl (by omega)) e_j_4 (by omega) ?_
    refine go_iadd dX6_sky_61 ?_
    refine nmI (fun z_10 e_z_10 => ?_)
    have h := h z_10 e_z_10
    refine go_istore_n (al1 := [(1, aI z_10), (0, aR 0 0), (2, aI x2)]) dX6_sky_62 rfl (by decide) rfl ?_
    refine go_iinc (q := 2) (y := 1) (al1 := [(2, aI (x2 + 1)), (1, aI z_10), (0, aR 0 0)]) dX6_sky_63 rfl (by decide) (by decide) rfl ?_
    refine go_goto (tgt := 4) dX6_sky_66 (by decide) ?_
    refine go_sub (al1 := [(0, aR 0 0), (1, aI z_10), (2, aI (x2 + 1))]) [2, 1, 0] rfl ?_
    exact hk4 z_10 (x2 + 1)  V_9 h
def wpX6_sky_0 (C : CT) (I4 : Int32 → Int32 → Mem → Prop)   (V : Mem) (Q : Option AV → Mem → Prop) : Prop :=
  I4 0 0 V
set_option maxRecDepth 10000 in
theorem okX6_sky_0 {d : Nat} {P : Option AV → Mem → Prop} {I4 : Int32 → Int32 → Mem → Prop}     (V : Mem) (hk4 : ∀ (x1 : Int32) (x2 : Int32), ∀ (V : Mem), I4 x1 x2 V → Gq (Kp (d + 1) mX6_sky UX P) UX cX6_sky 3 RX6 4 [(0, aR 0 0), (1, aI x1), (2, aI x2)] [] V) (h : wpX6_sky_0 (Cl UX d) I4   V P) : Gq (Kp (d + 1) mX6_sky UX P) UX cX6_sky 3 RX6 0 [(0, aR 0 0)] [] V := by
  unfold wpX6_sky_0 at h
  refine go_iconst (v := 0) dX6_sky_0 (by decide) ?_
  refine go_istore_n (al1 := [(1, aI 0), (0, aR 0 0)]) dX6_sky_1 rfl (by decide) rfl ?_
  refine go_iconst (v := 0) dX6_sky_2 (by decide) ?_
  refine go_istore_n (al1 := [(2, aI 0), (1, aI 0), (0, aR 0 0)]) dX6_sky_3 rfl (by decide) rfl ?_
  refine go_sub (al1 := [(0, aR 0 0), (1, aI 0), (2, aI 0)]) [2, 1, 0] rfl ?_
  exact hk4 0 0  V h
theorem clX6_sky {d : Nat} {P : Option AV → Mem → Prop} {I4 : Int32 → Int32 → Mem → Prop}    (V : Mem) (hk4 : ∀ (x1 : Int32) (x2 : Int32), ∀ (V : Mem), I4 x1 x2 V → Gq (Kp (d + 1) mX6_sky UX P) UX cX6_sky 3 RX6 4 [(0, aR 0 0), (1, aI x1), (2, aI x2)] [] V) (h : wpX6_sky_0 (Cl UX d) I4   V P) : Cl UX (d + 1) mX6_sky [aR 0 0] V P :=
  cl_of [(0, aR 0 0)] (by decide) (fun _ => Nat.le_of_ble_eq_true rfl) (fun _ => rfl) (okX6_sky_0    V hk4 h)
theorem dX6_sunset_0 : decode cX6_sunset 0 = .ok (.iload_n 1, 1) := by decide +kernel
theorem dX6_sunset_1 : decode cX6_sunset 1 = .ok (.iconst 0, 1) := by decide +kernel
theorem dX6_sunset_2 : decode cX6_sunset 2 = .ok (.bipush 24, 2) := by decide +kernel
theorem dX6_sunset_4 : decode cX6_sunset 4 = .ok (.invokestatic 79, 3) := by decide +kernel
theorem dX6_sunset_7 : decode cX6_sunset 7 = .ok (.ifCond .ne 6, 3) := by decide +kernel
theorem dX6_sunset_10 : decode cX6_sunset 10 = .ok (.ldc 83, 2) := by decide +kernel
theorem dX6_sunset_12 : decode cX6_sunset 12 = .ok (.ireturn, 1) := by decide +kernel
theorem dX6_sunset_13 : decode cX6_sunset 13 = .ok (.aload_n 0, 1) := by decide +kernel
theorem dX6_sunset_14 : decode cX6_sunset 14 = .ok (.getfield 21, 3) := by decide +kernel
theorem dX6_sunset_17 : decode cX6_sunset 17 = .ok (.getfield 181, 3) := by decide +kernel
theorem dX6_sunset_20 : decode cX6_sunset 20 = .ok (.istore_n 2, 1) := by decide +kernel
theorem dX6_sunset_21 : decode cX6_sunset 21 = .ok (.aload_n 0, 1) := by decide +kernel
theorem dX6_sunset_22 : decode cX6_sunset 22 = .ok (.getfield 21, 3) := by decide +kernel
theorem dX6_sunset_25 : decode cX6_sunset 25 = .ok (.iload_n 1, 1) := by decide +kernel
theorem dX6_sunset_26 : decode cX6_sunset 26 = .ok (.putfield 181, 3) := by decide +kernel
theorem dX6_sunset_29 : decode cX6_sunset 29 = .ok (.iload_n 2, 1) := by decide +kernel
theorem dX6_sunset_30 : decode cX6_sunset 30 = .ok (.ireturn, 1) := by decide +kernel
def wpX6_sunset_0 (C : CT)   (x1 : Int32) (V : Mem) (Q : Option AV → Mem → Prop) : Prop :=
  (cI C mX6_isWithin [aI x1, aI 0, aI 24] V (fun x_2 V_1 => ((¬ x_2 = 0 → (∀ z_3 : Int32, z_3 = (V_1 2 0 7) → (∀ V_4 : Mem, V_4 = mu V_1 2 0 7 x1 → Q (some (aI z_3)) V_4))) ∧ (x_2 = 0 → Q (some (aI (-1000000001))) V_1))))
set_option maxRecDepth 10000 in
theorem okX6_sunset_0 {d : Nat} {P : Option AV → Mem → Prop}    (x1 : Int32)  (V : Mem)  (h : wpX6_sunset_0 (Cl UX d)   x1 V P) : Gq (Kp (d + 1) mX6_sunset UX P) UX cX6_sunset 3 RX6 0 [(0, aR 0 0), (1, aI x1)] [] V := by
  unfold wpX6_sunset_0 at h
  refine go_iload_n (q := 1) dX6_sunset_0 rfl rfl ?_
  refine go_iconst (v := 0) dX6_sunset_1 (by decide) ?_
  refine go_bipush (v := 24) dX6_sunset_2 (by decide) ?_
  refine go_cSI (As := [aI x1, aI 0, aI 24]) (st := []) ms_X6_isWithin dX6_sunset_4 ml_X6_79 (hr_Kp (Nat.le_refl d)) rfl rfl (Nat.le_of_ble_eq_true rfl) h (fun x_2 V_1 h => ?_)
  refine go_if_ne (tgt := 13) dX6_sunset_7 (by decide) (fun c_5 => ?_) (fun c_5 => ?_)
  · have h := h.1 c_5
    refine go_aload_n (q := 0) dX6_sunset_13 rfl rfl ?_
    refine go_getr fg_X6_21 dX6_sunset_14 (mX (n := 1) (by decide) rfl (by omega)) ?_
    refine go_geti fg_X6_181 dX6_sunset_17 (mX (n := 3) (by decide) rfl (by omega)) ?_
    refine nmI (fun z_3 e_z_3 => ?_)
    have h := h z_3 e_z_3
    refine go_istore_n (al1 := [(2, aI z_3), (0, aR 0 0), (1, aI x1)]) dX6_sunset_20 rfl (by decide) rfl ?_
    refine go_aload_n (q := 1) dX6_sunset_21 rfl rfl ?_
    refine go_getr fg_X6_21 dX6_sunset_22 (mX (n := 1) (by decide) rfl (by omega)) ?_
    refine go_iload_n (q := 2) dX6_sunset_25 rfl rfl ?_
    refine go_puti fp_X6_181 dX6_sunset_26 (mX (n := 3) (by decide) rfl (by omega)) ?_
    refine nmV (fun V_4 e_V_4 => ?_)
    have h := h V_4 e_V_4
    refine go_iload_n (q := 0) dX6_sunset_29 rfl rfl ?_
    exact go_iret rfl dX6_sunset_30 h
  · have h := h.2 c_5
    refine go_ldc dX6_sunset_10 ct_X6_83 ?_
    exact go_iret rfl dX6_sunset_12 h
theorem clX6_sunset {d : Nat} {P : Option AV → Mem → Prop}    (x1 : Int32) (V : Mem)  (h : wpX6_sunset_0 (Cl UX d)   x1 V P) : Cl UX (d + 1) mX6_sunset [aR 0 0, aI x1] V P :=
  cl_of [(0, aR 0 0), (1, aI x1)] (by decide) (fun _ => Nat.le_of_ble_eq_true rfl) (fun _ => rfl) (okX6_sunset_0   x1 V  h)
theorem dX6_run_0 : decode cX6_run 0 = .ok (.iload_n 1, 1) := by decide +kernel
theorem dX6_run_1 : decode cX6_run 1 = .ok (.iconst 1, 1) := by decide +kernel
theorem dX6_run_2 : decode cX6_run 2 = .ok (.sipush 200, 3) := by decide +kernel
theorem dX6_run_5 : decode cX6_run 5 = .ok (.invokestatic 79, 3) := by decide +kernel
theorem dX6_run_8 : decode cX6_run 8 = .ok (.ifCond .ne 6, 3) := by decide +kernel
theorem dX6_run_11 : decode cX6_run 11 = .ok (.ldc 83, 2) := by decide +kernel
theorem dX6_run_13 : decode cX6_run 13 = .ok (.ireturn, 1) := by decide +kernel
theorem dX6_run_14 : decode cX6_run 14 = .ok (.aload_n 0, 1) := by decide +kernel
theorem dX6_run_15 : decode cX6_run 15 = .ok (.getfield 21, 3) := by decide +kernel
theorem dX6_run_18 : decode cX6_run 18 = .ok (.iload_n 1, 1) := by decide +kernel
theorem dX6_run_19 : decode cX6_run 19 = .ok (.aload_n 0, 1) := by decide +kernel
theorem dX6_run_20 : decode cX6_run 20 = .ok (.getfield 21, 3) := by decide +kernel
theorem dX6_run_23 : decode cX6_run 23 = .ok (.invokevirtual 184, 3) := by decide +kernel
theorem dX6_run_26 : decode cX6_run 26 = .ok (.invokestatic 154, 3) := by decide +kernel
theorem dX6_run_29 : decode cX6_run 29 = .ok (.invokevirtual 187, 3) := by decide +kernel
theorem dX6_run_32 : decode cX6_run 32 = .ok (.ireturn, 1) := by decide +kernel
def wpX6_run_0 (C : CT)   (x1 : Int32) (V : Mem) (Q : Option AV → Mem → Prop) : Prop :=
  (cI C mX6_isWithin [aI x1, aI 1, aI 200] V (fun x_2 V_1 => ((¬ x_2 = 0 → (cI C mX5_hoursLeft [aR 2 0] V_1 (fun x_4 V_3 => (∀ z_5 : Int32, z_5 = (if x_4 < x1 then x_4 else x1) → (cI C mX5_passHours [aR 2 0, aI z_5] V_3 (fun x_7 V_6 => Q (some (aI x_7)) V_6)))))) ∧ (x_2 = 0 → Q (some (aI (-1000000001))) V_1))))
set_option maxRecDepth 10000 in
theorem okX6_run_0 {d : Nat} {P : Option AV → Mem → Prop}    (x1 : Int32)  (V : Mem)  (h : wpX6_run_0 (Cl UX d)   x1 V P) : Gq (Kp (d + 1) mX6_run UX P) UX cX6_run 2 RX6 0 [(0, aR 0 0), (1, aI x1)] [] V := by
  unfold wpX6_run_0 at h
  refine go_iload_n (q := 1) dX6_run_0 rfl rfl ?_
  refine go_iconst (v := 1) dX6_run_1 (by decide) ?_
  refine go_sipush (v := 200) dX6_run_2 (by decide) ?_
  refine go_cSI (As := [aI x1, aI 1, aI 200]) (st := []) ms_X6_isWithin dX6_run_5 ml_X6_79 (hr_Kp (Nat.le_refl d)) rfl rfl (Nat.le_of_ble_eq_true rfl) h (fun x_2 V_1 h => ?_)
  refine go_if_ne (tgt := 14) dX6_run_8 (by decide) (fun c_8 => ?_) (fun c_8 => ?_)
  · have h := h.1 c_8
    refine go_aload_n (q := 0) dX6_run_14 rfl rfl ?_
    refine go_getr fg_X6_21 dX6_run_15 (mX (n := 1) (by decide) rfl (by omega)) ?_
    refine go_iload_n (q := 1) dX6_run_18 rfl rfl ?_
    refine go_aload_n (q := 0) dX6_run_19 rfl rfl ?_
    refine go_getr fg_X6_21 dX6_run_20 (mX (n := 1) (by decide) rfl (by omega)) ?_
    refine go_cVI (As := []) (st := [aI x1, aR 2 0]) (r := 2) (i := 0) mv_X5_hoursLeft dX6_run_23 ml_X6_184 (hr_Kp (Nat.le_refl d)) rfl rfl (mX (n := 3) (by decide) rfl (by omega)) rfl rfl (Nat.le_of_ble_eq_true rfl) h (fun x_4 V_3 h => ?_)
    refine go_mmin ml_X6_154 mt_min1 mt_ini mt_min2 (hr_Kp (Nat.zero_le d)) (Nat.le_of_ble_eq_true rfl) dX6_run_26 ?_
    refine nmI (fun z_5 e_z_5 => ?_)
    have h := h z_5 e_z_5
    refine go_cVI (As := [aI z_5]) (st := []) (r := 2) (i := 0) mv_X5_passHours dX6_run_29 ml_X6_187 (hr_Kp (Nat.le_refl d)) rfl rfl (mX (n := 3) (by decide) rfl (by omega)) rfl rfl (Nat.le_of_ble_eq_true rfl) h (fun x_7 V_6 h => ?_)
    exact go_iret rfl dX6_run_32 h
  · have h := h.2 c_8
    refine go_ldc dX6_run_11 ct_X6_83 ?_
    exact go_iret rfl dX6_run_13 h
theorem clX6_run {d : Nat} {P : Option AV → Mem → Prop}    (x1 : Int32) (V : Mem)  (h : wpX6_run_0 (Cl UX d)   x1 V P) : Cl UX (d + 1) mX6_run [aR 0 0, aI x1] V P :=
  cl_of [(0, aR 0 0), (1, aI x1)] (by decide) (fun _ => Nat.le_of_ble_eq_true rfl) (fun _ => rfl) (okX6_run_0   x1 V  h)
theorem dX6_kilos_0 : decode cX6_kilos 0 = .ok (.iload_n 1, 1) := by decide +kernel
theorem dX6_kilos_1 : decode cX6_kilos 1 = .ok (.tableswitch 99 0 6 #[43, 51, 59, 67, 75, 83, 91], 43) := by decide +kernel
theorem dX6_kilos_44 : decode cX6_kilos 44 = .ok (.aload_n 0, 1) := by decide +kernel
theorem dX6_kilos_45 : decode cX6_kilos 45 = .ok (.getfield 21, 3) := by decide +kernel
theorem dX6_kilos_48 : decode cX6_kilos 48 = .ok (.getfield 151, 3) := by decide +kernel
theorem dX6_kilos_51 : decode cX6_kilos 51 = .ok (.ireturn, 1) := by decide +kernel
theorem dX6_kilos_52 : decode cX6_kilos 52 = .ok (.aload_n 0, 1) := by decide +kernel
theorem dX6_kilos_53 : decode cX6_kilos 53 = .ok (.getfield 21, 3) := by decide +kernel
theorem dX6_kilos_56 : decode cX6_kilos 56 = .ok (.getfield 191, 3) := by decide +kernel
theorem dX6_kilos_59 : decode cX6_kilos 59 = .ok (.ireturn, 1) := by decide +kernel
theorem dX6_kilos_60 : decode cX6_kilos 60 = .ok (.aload_n 0, 1) := by decide +kernel
theorem dX6_kilos_61 : decode cX6_kilos 61 = .ok (.getfield 21, 3) := by decide +kernel
theorem dX6_kilos_64 : decode cX6_kilos 64 = .ok (.getfield 194, 3) := by decide +kernel
theorem dX6_kilos_67 : decode cX6_kilos 67 = .ok (.ireturn, 1) := by decide +kernel
theorem dX6_kilos_68 : decode cX6_kilos 68 = .ok (.aload_n 0, 1) := by decide +kernel
theorem dX6_kilos_69 : decode cX6_kilos 69 = .ok (.getfield 21, 3) := by decide +kernel
theorem dX6_kilos_72 : decode cX6_kilos 72 = .ok (.getfield 197, 3) := by decide +kernel
theorem dX6_kilos_75 : decode cX6_kilos 75 = .ok (.ireturn, 1) := by decide +kernel
theorem dX6_kilos_76 : decode cX6_kilos 76 = .ok (.aload_n 0, 1) := by decide +kernel
theorem dX6_kilos_77 : decode cX6_kilos 77 = .ok (.getfield 21, 3) := by decide +kernel
theorem dX6_kilos_80 : decode cX6_kilos 80 = .ok (.getfield 159, 3) := by decide +kernel
theorem dX6_kilos_83 : decode cX6_kilos 83 = .ok (.ireturn, 1) := by decide +kernel
theorem dX6_kilos_84 : decode cX6_kilos 84 = .ok (.aload_n 0, 1) := by decide +kernel
theorem dX6_kilos_85 : decode cX6_kilos 85 = .ok (.getfield 21, 3) := by decide +kernel
theorem dX6_kilos_88 : decode cX6_kilos 88 = .ok (.getfield 162, 3) := by decide +kernel
theorem dX6_kilos_91 : decode cX6_kilos 91 = .ok (.ireturn, 1) := by decide +kernel
theorem dX6_kilos_92 : decode cX6_kilos 92 = .ok (.aload_n 0, 1) := by decide +kernel
theorem dX6_kilos_93 : decode cX6_kilos 93 = .ok (.getfield 21, 3) := by decide +kernel
theorem dX6_kilos_96 : decode cX6_kilos 96 = .ok (.invokevirtual 200, 3) := by decide +kernel
theorem dX6_kilos_99 : decode cX6_kilos 99 = .ok (.ireturn, 1) := by decide +kernel
theorem dX6_kilos_100 : decode cX6_kilos 100 = .ok (.ldc 83, 2) := by decide +kernel
theorem dX6_kilos_102 : decode cX6_kilos 102 = .ok (.ireturn, 1) := by decide +kernel
def wpX6_kilos_0 (C : CT)   (x1 : Int32) (V : Mem) (Q : Option AV → Mem → Prop) : Prop :=
  ((x1 = 0 → Q (some (aI (V 2 0 10))) V) ∧ (x1 = 1 → Q (some (aI (V 2 0 11))) V) ∧ (x1 = 2 → Q (some (aI (V 2 0 12))) V) ∧ (x1 = 3 → Q (some (aI (V 2 0 13))) V) ∧ (x1 = 4 → Q (some (aI (V 2 0 14))) V) ∧ (x1 = 5 → Q (some (aI (V 2 0 15))) V) ∧ (x1 = 6 → (cI C mX5_allKilos [aR 2 0] V (fun x_2 V_1 => Q (some (aI x_2)) V_1))) ∧ (¬ x1 = 0 ∧ ¬ x1 = 1 ∧ ¬ x1 = 2 ∧ ¬ x1 = 3 ∧ ¬ x1 = 4 ∧ ¬ x1 = 5 ∧ ¬ x1 = 6 → Q (some (aI (-1000000001))) V))
set_option maxRecDepth 10000 in
theorem okX6_kilos_0 {d : Nat} {P : Option AV → Mem → Prop}    (x1 : Int32)  (V : Mem)  (h : wpX6_kilos_0 (Cl UX d)   x1 V P) : Gq (Kp (d + 1) mX6_kilos UX P) UX cX6_kilos 2 RX6 0 [(0, aR 0 0), (1, aI x1)] [] V := by
  unfold wpX6_kilos_0 at h
  refine go_iload_n (q := 1) dX6_kilos_0 rfl rfl ?_
  by_cases c1_0 : x1 = 0
  · have h := h.1 c1_0
    refine go_tabC (z := 0) (off := 43) (tgt := 44) c1_0 dX6_kilos_1 (by decide) (by decide) rfl (by decide) ?_
    refine go_aload_n (q := 0) dX6_kilos_44 rfl rfl ?_
    refine go_getr fg_X6_21 dX6_kilos_45 (mX (n := 1) (by decide) rfl (by omega)) ?_
    refine go_geti fg_X6_151 dX6_kilos_48 (mX (n := 3) (by decide) rfl (by omega)) ?_
    exact go_iret rfl dX6_kilos_51 h
  by_cases c1_1 : x1 = 1
  · have h := h.2.1 c1_1
    refine go_tabC (z := 1) (off := 51) (tgt := 52) c1_1 dX6_kilos_1 (by decide) (by decide) rfl (by decide) ?_
    refine go_aload_n (q := 0) dX6_kilos_52 rfl rfl ?_
    refine go_getr fg_X6_21 dX6_kilos_53 (mX (n := 1) (by decide) rfl (by omega)) ?_
    refine go_geti fg_X6_191 dX6_kilos_56 (mX (n := 3) (by decide) rfl (by omega)) ?_
    exact go_iret rfl dX6_kilos_59 h
  by_cases c1_2 : x1 = 2
  · have h := h.2.2.1 c1_2
    refine go_tabC (z := 2) (off := 59) (tgt := 60) c1_2 dX6_kilos_1 (by decide) (by decide) rfl (by decide) ?_
    refine go_aload_n (q := 0) dX6_kilos_60 rfl rfl ?_
    refine go_getr fg_X6_21 dX6_kilos_61 (mX (n := 1) (by decide) rfl (by omega)) ?_
    refine go_geti fg_X6_194 dX6_kilos_64 (mX (n := 3) (by decide) rfl (by omega)) ?_
    exact go_iret rfl dX6_kilos_67 h
  by_cases c1_3 : x1 = 3
  · have h := h.2.2.2.1 c1_3
    refine go_tabC (z := 3) (off := 67) (tgt := 68) c1_3 dX6_kilos_1 (by decide) (by decide) rfl (by decide) ?_
    refine go_aload_n (q := 0) dX6_kilos_68 rfl rfl ?_
    refine go_getr fg_X6_21 dX6_kilos_69 (mX (n := 1) (by decide) rfl (by omega)) ?_
    refine go_geti fg_X6_197 dX6_kilos_72 (mX (n := 3) (by decide) rfl (by omega)) ?_
    exact go_iret rfl dX6_kilos_75 h
  by_cases c1_4 : x1 = 4
  · have h := h.2.2.2.2.1 c1_4
    refine go_tabC (z := 4) (off := 75) (tgt := 76) c1_4 dX6_kilos_1 (by decide) (by decide) rfl (by decide) ?_
    refine go_aload_n (q := 0) dX6_kilos_76 rfl rfl ?_
    refine go_getr fg_X6_21 dX6_kilos_77 (mX (n := 1) (by decide) rfl (by omega)) ?_
    refine go_geti fg_X6_159 dX6_kilos_80 (mX (n := 3) (by decide) rfl (by omega)) ?_
    exact go_iret rfl dX6_kilos_83 h
  by_cases c1_5 : x1 = 5
  · have h := h.2.2.2.2.2.1 c1_5
    refine go_tabC (z := 5) (off := 83) (tgt := 84) c1_5 dX6_kilos_1 (by decide) (by decide) rfl (by decide) ?_
    refine go_aload_n (q := 0) dX6_kilos_84 rfl rfl ?_
    refine go_getr fg_X6_21 dX6_kilos_85 (mX (n := 1) (by decide) rfl (by omega)) ?_
    refine go_geti fg_X6_162 dX6_kilos_88 (mX (n := 3) (by decide) rfl (by omega)) ?_
    exact go_iret rfl dX6_kilos_91 h
  by_cases c1_6 : x1 = 6
  · have h := h.2.2.2.2.2.2.1 c1_6
    refine go_tabC (z := 6) (off := 91) (tgt := 92) c1_6 dX6_kilos_1 (by decide) (by decide) rfl (by decide) ?_
    refine go_aload_n (q := 0) dX6_kilos_92 rfl rfl ?_
    refine go_getr fg_X6_21 dX6_kilos_93 (mX (n := 1) (by decide) rfl (by omega)) ?_
    refine go_cVI (As := []) (st := []) (r := 2) (i := 0) mv_X5_allKilos dX6_kilos_96 ml_X6_200 (hr_Kp (Nat.le_refl d)) rfl rfl (mX (n := 3) (by decide) rfl (by omega)) rfl rfl (Nat.le_of_ble_eq_true rfl) h (fun x_2 V_1 h => ?_)
    exact go_iret rfl dX6_kilos_99 h
  have h := h.2.2.2.2.2.2.2 ⟨c1_0, c1_1, c1_2, c1_3, c1_4, c1_5, c1_6⟩
  have q_c1_0 := lv_neT c1_0 (show (0 : Int32).toInt = 0 from rfl)
  have q_c1_1 := lv_neT c1_1 (show (1 : Int32).toInt = 1 from rfl)
  have q_c1_2 := lv_neT c1_2 (show (2 : Int32).toInt = 2 from rfl)
  have q_c1_3 := lv_neT c1_3 (show (3 : Int32).toInt = 3 from rfl)
  have q_c1_4 := lv_neT c1_4 (show (4 : Int32).toInt = 4 from rfl)
  have q_c1_5 := lv_neT c1_5 (show (5 : Int32).toInt = 5 from rfl)
  have q_c1_6 := lv_neT c1_6 (show (6 : Int32).toInt = 6 from rfl)
  refine go_tabOut (tgt := 100) dX6_kilos_1 (by omega) (by decide) ?_
  refine go_ldc dX6_kilos_100 ct_X6_83 ?_
  exact go_iret rfl dX6_kilos_102 h
theorem clX6_kilos {d : Nat} {P : Option AV → Mem → Prop}    (x1 : Int32) (V : Mem)  (h : wpX6_kilos_0 (Cl UX d)   x1 V P) : Cl UX (d + 1) mX6_kilos [aR 0 0, aI x1] V P :=
  cl_of [(0, aR 0 0), (1, aI x1)] (by decide) (fun _ => Nat.le_of_ble_eq_true rfl) (fun _ => rfl) (okX6_kilos_0   x1 V  h)
theorem dX6_behind_0 : decode cX6_behind 0 = .ok (.aload_n 0, 1) := by decide +kernel
theorem dX6_behind_1 : decode cX6_behind 1 = .ok (.iload_n 1, 1) := by decide +kernel
theorem dX6_behind_2 : decode cX6_behind 2 = .ok (.invokevirtual 92, 3) := by decide +kernel
theorem dX6_behind_5 : decode cX6_behind 5 = .ok (.ifCond .eq 23, 3) := by decide +kernel
theorem dX6_behind_8 : decode cX6_behind 8 = .ok (.iload_n 2, 1) := by decide +kernel
theorem dX6_behind_9 : decode cX6_behind 9 = .ok (.iconst 0, 1) := by decide +kernel
theorem dX6_behind_10 : decode cX6_behind 10 = .ok (.sipush 200, 3) := by decide +kernel
theorem dX6_behind_13 : decode cX6_behind 13 = .ok (.invokestatic 79, 3) := by decide +kernel
theorem dX6_behind_16 : decode cX6_behind 16 = .ok (.ifCond .eq 12, 3) := by decide +kernel
theorem dX6_behind_19 : decode cX6_behind 19 = .ok (.iload_n 3, 1) := by decide +kernel
theorem dX6_behind_20 : decode cX6_behind 20 = .ok (.iconst 0, 1) := by decide +kernel
theorem dX6_behind_21 : decode cX6_behind 21 = .ok (.iconst 3, 1) := by decide +kernel
theorem dX6_behind_22 : decode cX6_behind 22 = .ok (.invokestatic 79, 3) := by decide +kernel
theorem dX6_behind_25 : decode cX6_behind 25 = .ok (.ifCond .ne 6, 3) := by decide +kernel
theorem dX6_behind_28 : decode cX6_behind 28 = .ok (.ldc 83, 2) := by decide +kernel
theorem dX6_behind_30 : decode cX6_behind 30 = .ok (.ireturn, 1) := by decide +kernel
theorem dX6_behind_31 : decode cX6_behind 31 = .ok (.aload_n 0, 1) := by decide +kernel
theorem dX6_behind_32 : decode cX6_behind 32 = .ok (.getfield 28, 3) := by decide +kernel
theorem dX6_behind_35 : decode cX6_behind 35 = .ok (.aload_n 0, 1) := by decide +kernel
theorem dX6_behind_36 : decode cX6_behind 36 = .ok (.getfield 21, 3) := by decide +kernel
theorem dX6_behind_39 : decode cX6_behind 39 = .ok (.invokevirtual 203, 3) := by decide +kernel
theorem dX6_behind_42 : decode cX6_behind 42 = .ok (.aload_n 0, 1) := by decide +kernel
theorem dX6_behind_43 : decode cX6_behind 43 = .ok (.getfield 28, 3) := by decide +kernel
theorem dX6_behind_46 : decode cX6_behind 46 = .ok (.iload_n 2, 1) := by decide +kernel
theorem dX6_behind_47 : decode cX6_behind 47 = .ok (.invokevirtual 187, 3) := by decide +kernel
theorem dX6_behind_50 : decode cX6_behind 50 = .ok (.pop, 1) := by decide +kernel
theorem dX6_behind_51 : decode cX6_behind 51 = .ok (.iload_n 3, 1) := by decide +kernel
theorem dX6_behind_52 : decode cX6_behind 52 = .ok (.tableswitch 62 0 2 #[28, 41, 54], 28) := by decide +kernel
theorem dX6_behind_80 : decode cX6_behind 80 = .ok (.aload_n 0, 1) := by decide +kernel
theorem dX6_behind_81 : decode cX6_behind 81 = .ok (.getfield 28, 3) := by decide +kernel
theorem dX6_behind_84 : decode cX6_behind 84 = .ok (.getfield 95, 3) := by decide +kernel
theorem dX6_behind_87 : decode cX6_behind 87 = .ok (.iload_n 1, 1) := by decide +kernel
theorem dX6_behind_88 : decode cX6_behind 88 = .ok (.aaload, 1) := by decide +kernel
theorem dX6_behind_89 : decode cX6_behind 89 = .ok (.getfield 113, 3) := by decide +kernel
theorem dX6_behind_92 : decode cX6_behind 92 = .ok (.ireturn, 1) := by decide +kernel
theorem dX6_behind_93 : decode cX6_behind 93 = .ok (.aload_n 0, 1) := by decide +kernel
theorem dX6_behind_94 : decode cX6_behind 94 = .ok (.getfield 28, 3) := by decide +kernel
theorem dX6_behind_97 : decode cX6_behind 97 = .ok (.getfield 95, 3) := by decide +kernel
theorem dX6_behind_100 : decode cX6_behind 100 = .ok (.iload_n 1, 1) := by decide +kernel
theorem dX6_behind_101 : decode cX6_behind 101 = .ok (.aaload, 1) := by decide +kernel
theorem dX6_behind_102 : decode cX6_behind 102 = .ok (.getfield 116, 3) := by decide +kernel
theorem dX6_behind_105 : decode cX6_behind 105 = .ok (.ireturn, 1) := by decide +kernel
theorem dX6_behind_106 : decode cX6_behind 106 = .ok (.aload_n 0, 1) := by decide +kernel
theorem dX6_behind_107 : decode cX6_behind 107 = .ok (.getfield 28, 3) := by decide +kernel
theorem dX6_behind_110 : decode cX6_behind 110 = .ok (.getfield 191, 3) := by decide +kernel
theorem dX6_behind_113 : decode cX6_behind 113 = .ok (.ireturn, 1) := by decide +kernel
theorem dX6_behind_114 : decode cX6_behind 114 = .ok (.aload_n 0, 1) := by decide +kernel
theorem dX6_behind_115 : decode cX6_behind 115 = .ok (.getfield 28, 3) := by decide +kernel
theorem dX6_behind_118 : decode cX6_behind 118 = .ok (.getfield 197, 3) := by decide +kernel
theorem dX6_behind_121 : decode cX6_behind 121 = .ok (.ireturn, 1) := by decide +kernel
def wpX6_behind_0 (C : CT)   (x1 : Int32) (x2 : Int32) (x3 : Int32) (V : Mem) (Q : Option AV → Mem → Prop) : Prop :=
  (cI C mX6_isRoof [aR 0 0, aI x1] V (fun x_2 V_1 => ((x_2 = 0 → Q (some (aI (-1000000001))) V_1) ∧ (¬ x_2 = 0 → (cI C mX6_isWithin [aI x2, aI 0, aI 200] V_1 (fun x_4 V_3 => ((x_4 = 0 → Q (some (aI (-1000000001))) V_3) ∧ (¬ x_4 = 0 → (cI C mX6_isWithin [aI x3, aI 0, aI 3] V_3 (fun x_6 V_5 => ((¬ x_6 = 0 → (cV C mX5_become [aR 2 2, aR 2 0] V_5 (fun V_7 => (cI C mX5_passHours [aR 2 2, aI x2] V_7 (fun x_9 V_8 => ((x3 = 0 → (∃ j_10 : Nat, x1 = nI j_10 ∧ j_10 < 8 ∧ Q (some (aI (V_8 3 (8 * 2 + j_10) 4))) V_8)) ∧ (x3 = 1 → (∃ j_11 : Nat, x1 = nI j_11 ∧ j_11 < 8 ∧ Q (some (aI (V_8 3 (8 * 2 + j_11) 5))) V_8)) ∧ (x3 = 2 → Q (some (aI (V_8 2 2 11))) V_8) ∧ (¬ x3 = 0 ∧ ¬ x3 = 1 ∧ ¬ x3 = 2 → Q (some (aI (V_8 2 2 13))) V_8))))))) ∧ (x_6 = 0 → Q (some (aI (-1000000001))) V_5))))))))))))
set_option maxRecDepth 10000 in
theorem okX6_behind_0 {d : Nat} {P : Option AV → Mem → Prop}    (x1 : Int32) (x2 : Int32) (x3 : Int32)  (V : Mem)  (h : wpX6_behind_0 (Cl UX d)   x1 x2 x3 V P) : Gq (Kp (d + 1) mX6_behind UX P) UX cX6_behind 4 RX6 0 [(0, aR 0 0), (1, aI x1), (2, aI x2), (3, aI x3)] [] V := by
  unfold wpX6_behind_0 at h
  refine go_aload_n (q := 0) dX6_behind_0 rfl rfl ?_
  refine go_iload_n (q := 1) dX6_behind_1 rfl rfl ?_
  refine go_cVI (As := [aI x1]) (st := []) (r := 0) (i := 0) mv_X6_isRoof dX6_behind_2 ml_X6_92 (hr_Kp (Nat.le_refl d)) rfl rfl (mX (n := 1) (by decide) rfl (by omega)) rfl rfl (Nat.le_of_ble_eq_true rfl) h (fun x_2 V_1 h => ?_)
  refine go_if_eq (tgt := 28) dX6_behind_5 (by decide) (fun c_14 => ?_) (fun c_14 => ?_)
  · have h := h.1 c_14
    refine go_ldc dX6_behind_28 ct_X6_83 ?_
    exact go_iret rfl dX6_behind_30 h
  · have h := h.2 c_14
    refine go_iload_n (q := 2) dX6_behind_8 rfl rfl ?_
    refine go_iconst (v := 0) dX6_behind_9 (by decide) ?_
    refine go_sipush (v := 200) dX6_behind_10 (by decide) ?_
    refine go_cSI (As := [aI x2, aI 0, aI 200]) (st := []) ms_X6_isWithin dX6_behind_13 ml_X6_79 (hr_Kp (Nat.le_refl d)) rfl rfl (Nat.le_of_ble_eq_true rfl) h (fun x_4 V_3 h => ?_)
    refine go_if_eq (tgt := 28) dX6_behind_16 (by decide) (fun c_13 => ?_) (fun c_13 => ?_)
    · have h := h.1 c_13
      refine go_ldc dX6_behind_28 ct_X6_83 ?_
      exact go_iret rfl dX6_behind_30 h
    · have h := h.2 c_13
      refine go_iload_n (q := 3) dX6_behind_19 rfl rfl ?_
      refine go_iconst (v := 0) dX6_behind_20 (by decide) ?_
      refine go_iconst (v := 3) dX6_behind_21 (by decide) ?_
      refine go_cSI (As := [aI x3, aI 0, aI 3]) (st := []) ms_X6_isWithin dX6_behind_22 ml_X6_79 (hr_Kp (Nat.le_refl d)) rfl rfl (Nat.le_of_ble_eq_true rfl) h (fun x_6 V_5 h => ?_)
      refine go_if_ne (tgt := 31) dX6_behind_25 (by decide) (fun c_12 => ?_) (fun c_12 => ?_)
      · have h := h.1 c_12
        refine go_aload_n (q := 0) dX6_behind_31 rfl rfl ?_
        refine go_getr fg_X6_28 dX6_behind_32 (mX (n := 1) (by decide) rfl (by omega)) ?_
        refine go_aload_n (q := 0) dX6_behind_35 rfl rfl ?_
        refine go_getr fg_X6_21 dX6_behind_36 (mX (n := 1) (by decide) rfl (by omega)) ?_
        refine go_cVV (As := [aR 2 0]) (st := []) (r := 2) (i := 2) mv_X5_become dX6_behind_39 ml_X6_203 (hr_Kp (Nat.le_refl d)) rfl rfl (mX (n := 3) (by decide) rfl (by omega)) rfl rfl (Nat.le_of_ble_eq_true rfl) h (fun V_7 h => ?_)
        refine go_aload_n (q := 0) dX6_behind_42 rfl rfl ?_
        refine go_getr fg_X6_28 dX6_behind_43 (mX (n := 1) (by decide) rfl (by omega)) ?_
        refine go_iload_n (q := 2) dX6_behind_46 rfl rfl ?_
        refine go_cVI (As := [aI x2]) (st := []) (r := 2) (i := 2) mv_X5_passHours dX6_behind_47 ml_X6_187 (hr_Kp (Nat.le_refl d)) rfl rfl (mX (n := 3) (by decide) rfl (by omega)) rfl rfl (Nat.le_of_ble_eq_true rfl) h (fun x_9 V_8 h => ?_)
        refine go_pop dX6_behind_50 rfl ?_
        refine go_iload_n (q := 3) dX6_behind_51 rfl rfl ?_
        by_cases c52_0 : x3 = 0
        · have h := h.1 c52_0
          refine go_tabC (z := 0) (off := 28) (tgt := 80) c52_0 dX6_behind_52 (by decide) (by decide) rfl (by decide) ?_
          refine go_aload_n (q := 0) dX6_behind_80 rfl rfl ?_
          refine go_getr fg_X6_28 dX6_behind_81 (mX (n := 1) (by decide) rfl (by omega)) ?_
          refine go_getr fg_X6_95 dX6_behind_84 (mX (n := 3) (by decide) rfl (by omega)) ?_
          refine go_iload_n (q := 1) dX6_behind_87 rfl rfl ?_
          obtain ⟨j_10, e_j_10, l_j_10, h⟩ := h
          refine go_aald (r := 13) (n := 8) (j := j_10) rfl rfl (by decide) dX6_behind_88 (mX (n := 3) (by decide) rfl (by omega)) e_j_10 l_j_10 ?_
          refine go_geti fg_X6_113 dX6_behind_89 (mX (n := 29) (by decide) rfl (by omega)) ?_
          exact go_iret rfl dX6_behind_92 h
        by_cases c52_1 : x3 = 1
        · have h := h.2.1 c52_1
          refine go_tabC (z := 1) (off := 41) (tgt := 93) c52_1 dX6_behind_52 (by decide) (by decide) rfl (by decide) ?_
          refine go_aload_n (q := 0) dX6_behind_93 rfl rfl ?_
          refine go_getr fg_X6_28 dX6_behind_94 (mX (n := 1) (by decide) rfl (by omega)) ?_
          refine go_getr fg_X6_95 dX6_behind_97 (mX (n := 3) (by decide) rfl (by omega)) ?_
          refine go_iload_n (q := 1) dX6_behind_100 rfl rfl ?_
          obtain ⟨j_11, e_j_11, l_j_11, h⟩ := h
          refine go_aald (r := 13) (n := 8) (j := j_11) rfl rfl (by decide) dX6_behind_101 (mX (n := 3) (by decide) rfl (by omega)) e_j_11 l_j_11 ?_
          refine go_geti fg_X6_116 dX6_behind_102 (mX (n := 29) (by decide) rfl (by omega)) ?_
          exact go_iret rfl dX6_behind_105 h
        by_cases c52_2 : x3 = 2
        · have h := h.2.2.1 c52_2
          refine go_tabC (z := 2) (off := 54) (tgt := 106) c52_2 dX6_behind_52 (by decide) (by decide) rfl (by decide) ?_
          refine go_aload_n (q := 0) dX6_behind_106 rfl rfl ?_
          refine go_getr fg_X6_28 dX6_behind_107 (mX (n := 1) (by decide) rfl (by omega)) ?_
          refine go_geti fg_X6_191 dX6_behind_110 (mX (n := 3) (by decide) rfl (by omega)) ?_
          exact go_iret rfl dX6_behind_113 h
        have h := h.2.2.2 ⟨c52_0, c52_1, c52_2⟩
        have q_c52_0 := lv_neT c52_0 (show (0 : Int32).toInt = 0 from rfl)
        have q_c52_1 := lv_neT c52_1 (show (1 : Int32).toInt = 1 from rfl)
        have q_c52_2 := lv_neT c52_2 (show (2 : Int32).toInt = 2 from rfl)
        refine go_tabOut (tgt := 114) dX6_behind_52 (by omega) (by decide) ?_
        refine go_aload_n (q := 0) dX6_behind_114 rfl rfl ?_
        refine go_getr fg_X6_28 dX6_behind_115 (mX (n := 1) (by decide) rfl (by omega)) ?_
        refine go_geti fg_X6_197 dX6_behind_118 (mX (n := 3) (by decide) rfl (by omega)) ?_
        exact go_iret rfl dX6_behind_121 h
      · have h := h.2 c_12
        refine go_ldc dX6_behind_28 ct_X6_83 ?_
        exact go_iret rfl dX6_behind_30 h
theorem clX6_behind {d : Nat} {P : Option AV → Mem → Prop}    (x1 : Int32) (x2 : Int32) (x3 : Int32) (V : Mem)  (h : wpX6_behind_0 (Cl UX d)   x1 x2 x3 V P) : Cl UX (d + 1) mX6_behind [aR 0 0, aI x1, aI x2, aI x3] V P :=
  cl_of [(0, aR 0 0), (1, aI x1), (2, aI x2), (3, aI x3)] (by decide) (fun _ => Nat.le_of_ble_eq_true rfl) (fun _ => rfl) (okX6_behind_0   x1 x2 x3 V  h)
theorem dX6_best_0 : decode cX6_best 0 = .ok (.aload_n 0, 1) := by decide +kernel
theorem dX6_best_1 : decode cX6_best 1 = .ok (.iload_n 1, 1) := by decide +kernel
theorem dX6_best_2 : decode cX6_best 2 = .ok (.invokevirtual 92, 3) := by decide +kernel
theorem dX6_best_5 : decode cX6_best 5 = .ok (.ifCond .eq 22, 3) := by decide +kernel
theorem dX6_best_8 : decode cX6_best 8 = .ok (.iload_n 2, 1) := by decide +kernel
theorem dX6_best_9 : decode cX6_best 9 = .ok (.iconst 1, 1) := by decide +kernel
theorem dX6_best_10 : decode cX6_best 10 = .ok (.bipush 72, 2) := by decide +kernel
theorem dX6_best_12 : decode cX6_best 12 = .ok (.invokestatic 79, 3) := by decide +kernel
theorem dX6_best_15 : decode cX6_best 15 = .ok (.ifCond .eq 12, 3) := by decide +kernel
theorem dX6_best_18 : decode cX6_best 18 = .ok (.iload_n 3, 1) := by decide +kernel
theorem dX6_best_19 : decode cX6_best 19 = .ok (.iconst 0, 1) := by decide +kernel
theorem dX6_best_20 : decode cX6_best 20 = .ok (.iconst 1, 1) := by decide +kernel
theorem dX6_best_21 : decode cX6_best 21 = .ok (.invokestatic 79, 3) := by decide +kernel
theorem dX6_best_24 : decode cX6_best 24 = .ok (.ifCond .ne 6, 3) := by decide +kernel
theorem dX6_best_27 : decode cX6_best 27 = .ok (.ldc 83, 2) := by decide +kernel
theorem dX6_best_29 : decode cX6_best 29 = .ok (.ireturn, 1) := by decide +kernel
theorem dX6_best_30 : decode cX6_best 30 = .ok (.iconst 0, 1) := by decide +kernel
theorem dX6_best_31 : decode cX6_best 31 = .ok (.istore 4, 2) := by decide +kernel
theorem dX6_best_33 : decode cX6_best 33 = .ok (.aload_n 0, 1) := by decide +kernel
theorem dX6_best_34 : decode cX6_best 34 = .ok (.iload_n 1, 1) := by decide +kernel
theorem dX6_best_35 : decode cX6_best 35 = .ok (.iload_n 2, 1) := by decide +kernel
theorem dX6_best_36 : decode cX6_best 36 = .ok (.iconst 0, 1) := by decide +kernel
theorem dX6_best_37 : decode cX6_best 37 = .ok (.invokevirtual 207, 3) := by decide +kernel
theorem dX6_best_40 : decode cX6_best 40 = .ok (.istore 5, 2) := by decide +kernel
theorem dX6_best_42 : decode cX6_best 42 = .ok (.iconst 1, 1) := by decide +kernel
theorem dX6_best_43 : decode cX6_best 43 = .ok (.istore 6, 2) := by decide +kernel
theorem dX6_best_45 : decode cX6_best 45 = .ok (.iload 6, 2) := by decide +kernel
theorem dX6_best_47 : decode cX6_best 47 = .ok (.bipush 9, 2) := by decide +kernel
theorem dX6_best_49 : decode cX6_best 49 = .ok (.if_icmp .gt 34, 3) := by decide +kernel
theorem dX6_best_52 : decode cX6_best 52 = .ok (.aload_n 0, 1) := by decide +kernel
theorem dX6_best_53 : decode cX6_best 53 = .ok (.iload_n 1, 1) := by decide +kernel
theorem dX6_best_54 : decode cX6_best 54 = .ok (.iload_n 2, 1) := by decide +kernel
theorem dX6_best_55 : decode cX6_best 55 = .ok (.iload 6, 2) := by decide +kernel
theorem dX6_best_57 : decode cX6_best 57 = .ok (.invokevirtual 207, 3) := by decide +kernel
theorem dX6_best_60 : decode cX6_best 60 = .ok (.istore 7, 2) := by decide +kernel
theorem dX6_best_62 : decode cX6_best 62 = .ok (.iload 7, 2) := by decide +kernel
theorem dX6_best_64 : decode cX6_best 64 = .ok (.iload 5, 2) := by decide +kernel
theorem dX6_best_66 : decode cX6_best 66 = .ok (.if_icmp .le 11, 3) := by decide +kernel
theorem dX6_best_69 : decode cX6_best 69 = .ok (.iload 7, 2) := by decide +kernel
theorem dX6_best_71 : decode cX6_best 71 = .ok (.istore 5, 2) := by decide +kernel
theorem dX6_best_73 : decode cX6_best 73 = .ok (.iload 6, 2) := by decide +kernel
theorem dX6_best_75 : decode cX6_best 75 = .ok (.istore 4, 2) := by decide +kernel
theorem dX6_best_77 : decode cX6_best 77 = .ok (.iinc 6 1, 3) := by decide +kernel
theorem dX6_best_80 : decode cX6_best 80 = .ok (.goto (-35), 3) := by decide +kernel
theorem dX6_best_83 : decode cX6_best 83 = .ok (.iload_n 3, 1) := by decide +kernel
theorem dX6_best_84 : decode cX6_best 84 = .ok (.ifCond .ne 8, 3) := by decide +kernel
theorem dX6_best_87 : decode cX6_best 87 = .ok (.iload 4, 2) := by decide +kernel
theorem dX6_best_89 : decode cX6_best 89 = .ok (.goto 5, 3) := by decide +kernel
theorem dX6_best_92 : decode cX6_best 92 = .ok (.iload 5, 2) := by decide +kernel
theorem dX6_best_94 : decode cX6_best 94 = .ok (.ireturn, 1) := by decide +kernel
def wpX6_best_45 (C : CT) (I45 : Int32 → Int32 → Int32 → Int32 → Int32 → Int32 → Mem → Prop)  (x1 : Int32) (x2 : Int32) (x3 : Int32) (x4 : Int32) (x5 : Int32) (x6 : Int32) (V : Mem) (Q : Option AV → Mem → Prop) : Prop :=
  ((9 < x6 → ((¬ x3 = 0 → Q (some (aI x5)) V) ∧ (x3 = 0 → Q (some (aI x4)) V))) ∧ (¬ 9 < x6 → (cI C mX6_yieldOfHeat [aR 0 0, aI x1, aI x2, aI x6] V (fun x_3 V_2 => ((x_3 ≤ x5 → I45 x1 x2 x3 x4 x5 (x6 + 1) V_2) ∧ (¬ x_3 ≤ x5 → I45 x1 x2 x3 x6 x_3 (x6 + 1) V_2))))))
set_option maxRecDepth 10000 in
theorem okX6_best_45 {d : Nat} {P : Option AV → Mem → Prop} {I45 : Int32 → Int32 → Int32 → Int32 → Int32 → Int32 → Mem → Prop}   (x1 : Int32) (x2 : Int32) (x3 : Int32) (x4 : Int32) (x5 : Int32) (x6 : Int32)  (V : Mem) (hk45 : ∀ (x1 : Int32) (x2 : Int32) (x3 : Int32) (x4 : Int32) (x5 : Int32) (x6 : Int32), ∀ (V : Mem), I45 x1 x2 x3 x4 x5 x6 V → Gq (Kp (d + 1) mX6_best UX P) UX cX6_best 8 RX6 45 [(0, aR 0 0), (1, aI x1), (2, aI x2), (3, aI x3), (4, aI x4), (5, aI x5), (6, aI x6)] [] V) (h : wpX6_best_45 (Cl UX d) I45  x1 x2 x3 x4 x5 x6 V P) : Gq (Kp (d + 1) mX6_best UX P) UX cX6_best 8 RX6 45 [(0, aR 0 0), (1, aI x1), (2, aI x2), (3, aI x3), (4, aI x4), (5, aI x5), (6, aI x6)] [] V := by
  unfold wpX6_best_45 at h
  refine go_iload (q := 6) dX6_best_45 rfl ?_
  refine go_bipush (v := 9) dX6_best_47 (by decide) ?_
  refine go_icmp_gt (tgt := 83) dX6_best_49 (by decide) (fun c_5 => ?_) (fun c_5 => ?_)
  · have h := h.1 c_5
    refine go_iload_n (q := 3) dX6_best_83 rfl rfl ?_
    refine go_if_ne (tgt := 92) dX6_best_84 (by decide) (fun c_1 => ?_) (fun c_1 => ?_)
    · have h := h.1 c_1
      refine go_iload (q := 5) dX6_best_92 rfl ?_
      exact go_iret rfl dX6_best_94 h
    · have h := h.2 c_1
      refine go_iload (q := 4) dX6_best_87 rfl ?_
      refine go_goto (tgt := 94) dX6_best_89 (by decide) ?_
      exact go_iret rfl dX6_best_94 h
  · have h := h.2 c_5
    refine go_aload_n (q := 0) dX6_best_52 rfl rfl ?_
    refine go_iload_n (q := 1) dX6_best_53 rfl rfl ?_
    refine go_iload_n (q := 2) dX6_best_54 rfl rfl ?_
    refine go_iload (q := 6) dX6_best_55 rfl ?_
    refine go_cVI (As := [aI x1, aI x2, aI x6]) (st := []) (r := 0) (i := 0) mv_X6_yieldOfHeat dX6_best_57 ml_X6_207 (hr_Kp (Nat.le_refl d)) rfl rfl (mX (n := 1) (by decide) rfl (by omega)) rfl rfl (Nat.le_of_ble_eq_true rfl) h (fun x_3 V_2 h => ?_)
    refine go_istore (al1 := [(7, aI x_3), (0, aR 0 0), (1, aI x1), (2, aI x2), (3, aI x3), (4, aI x4), (5, aI x5), (6, aI x6)]) dX6_best_60 (by decide) rfl ?_
    refine go_iload (q := 0) dX6_best_62 rfl ?_
    refine go_iload (q := 6) dX6_best_64 rfl ?_
    refine go_icmp_le (tgt := 77) dX6_best_66 (by decide) (fun c_4 => ?_) (fun c_4 => ?_)
    · have h := h.1 c_4
      refine go_iinc (q := 7) (y := 1) (al1 := [(6, aI (x6 + 1)), (7, aI x_3), (0, aR 0 0), (1, aI x1), (2, aI x2), (3, aI x3), (4, aI x4), (5, aI x5)]) dX6_best_77 rfl (by decide) (by decide) rfl ?_
      refine go_goto (tgt := 45) dX6_best_80 (by decide) ?_
      refine go_sub (al1 := [(0, aR 0 0), (1, aI x1), (2, aI x2), (3, aI x3), (4, aI x4), (5, aI x5), (6, aI (x6 + 1))]) [2, 3, 4, 5, 6, 7, 0] rfl ?_
      exact hk45 x1 x2 x3 x4 x5 (x6 + 1)  V_2 h
    · have h := h.2 c_4
      refine go_iload (q := 0) dX6_best_69 rfl ?_
      refine go_istore (al1 := [(5, aI x_3), (7, aI x_3), (0, aR 0 0), (1, aI x1), (2, aI x2), (3, aI x3), (4, aI x4), (6, aI x6)]) dX6_best_71 (by decide) rfl ?_
      refine go_iload (q := 7) dX6_best_73 rfl ?_
      refine go_istore (al1 := [(4, aI x6), (5, aI x_3), (7, aI x_3), (0, aR 0 0), (1, aI x1), (2, aI x2), (3, aI x3), (6, aI x6)]) dX6_best_75 (by decide) rfl ?_
      refine go_iinc (q := 7) (y := 1) (al1 := [(6, aI (x6 + 1)), (4, aI x6), (5, aI x_3), (7, aI x_3), (0, aR 0 0), (1, aI x1), (2, aI x2), (3, aI x3)]) dX6_best_77 rfl (by decide) (by decide) rfl ?_
      refine go_goto (tgt := 45) dX6_best_80 (by decide) ?_
      refine go_sub (al1 := [(0, aR 0 0), (1, aI x1), (2, aI x2), (3, aI x3), (4, aI x6), (5, aI x_3), (6, aI (x6 + 1))]) [4, 5, 6, 7, 1, 2, 0] rfl ?_
      exact hk45 x1 x2 x3 x6 x_3 (x6 + 1)  V_2 h
def wpX6_best_0 (C : CT) (I45 : Int32 → Int32 → Int32 → Int32 → Int32 → Int32 → Mem → Prop)  (x1 : Int32) (x2 : Int32) (x3 : Int32) (V : Mem) (Q : Option AV → Mem → Prop) : Prop :=
  (cI C mX6_isRoof [aR 0 0, aI x1] V (fun x_2 V_1 => ((x_2 = 0 → Q (some (aI (-1000000001))) V_1) ∧ (¬ x_2 = 0 → (cI C mX6_isWithin [aI x2, aI 1, aI 72] V_1 (fun x_4 V_3 => ((x_4 = 0 → Q (some (aI (-1000000001))) V_3) ∧ (¬ x_4 = 0 → (cI C mX6_isWithin [aI x3, aI 0, aI 1] V_3 (fun x_6 V_5 => ((¬ x_6 = 0 → (cI C mX6_yieldOfHeat [aR 0 0, aI x1, aI x2, aI 0] V_5 (fun x_8 V_7 => I45 x1 x2 x3 0 x_8 1 V_7))) ∧ (x_6 = 0 → Q (some (aI (-1000000001))) V_5))))))))))))
set_option maxRecDepth 10000 in
theorem okX6_best_0 {d : Nat} {P : Option AV → Mem → Prop} {I45 : Int32 → Int32 → Int32 → Int32 → Int32 → Int32 → Mem → Prop}   (x1 : Int32) (x2 : Int32) (x3 : Int32)  (V : Mem) (hk45 : ∀ (x1 : Int32) (x2 : Int32) (x3 : Int32) (x4 : Int32) (x5 : Int32) (x6 : Int32), ∀ (V : Mem), I45 x1 x2 x3 x4 x5 x6 V → Gq (Kp (d + 1) mX6_best UX P) UX cX6_best 8 RX6 45 [(0, aR 0 0), (1, aI x1), (2, aI x2), (3, aI x3), (4, aI x4), (5, aI x5), (6, aI x6)] [] V) (h : wpX6_best_0 (Cl UX d) I45  x1 x2 x3 V P) : Gq (Kp (d + 1) mX6_best UX P) UX cX6_best 8 RX6 0 [(0, aR 0 0), (1, aI x1), (2, aI x2), (3, aI x3)] [] V := by
  unfold wpX6_best_0 at h
  refine go_aload_n (q := 0) dX6_best_0 rfl rfl ?_
  refine go_iload_n (q := 1) dX6_best_1 rfl rfl ?_
  refine go_cVI (As := [aI x1]) (st := []) (r := 0) (i := 0) mv_X6_isRoof dX6_best_2 ml_X6_92 (hr_Kp (Nat.le_refl d)) rfl rfl (mX (n := 1) (by decide) rfl (by omega)) rfl rfl (Nat.le_of_ble_eq_true rfl) h (fun x_2 V_1 h => ?_)
  refine go_if_eq (tgt := 27) dX6_best_5 (by decide) (fun c_11 => ?_) (fun c_11 => ?_)
  · have h := h.1 c_11
    refine go_ldc dX6_best_27 ct_X6_83 ?_
    exact go_iret rfl dX6_best_29 h
  · have h := h.2 c_11
    refine go_iload_n (q := 2) dX6_best_8 rfl rfl ?_
    refine go_iconst (v := 1) dX6_best_9 (by decide) ?_
    refine go_bipush (v := 72) dX6_best_10 (by decide) ?_
    refine go_cSI (As := [aI x2, aI 1, aI 72]) (st := []) ms_X6_isWithin dX6_best_12 ml_X6_79 (hr_Kp (Nat.le_refl d)) rfl rfl (Nat.le_of_ble_eq_true rfl) h (fun x_4 V_3 h => ?_)
    refine go_if_eq (tgt := 27) dX6_best_15 (by decide) (fun c_10 => ?_) (fun c_10 => ?_)
    · have h := h.1 c_10
      refine go_ldc dX6_best_27 ct_X6_83 ?_
      exact go_iret rfl dX6_best_29 h
    · have h := h.2 c_10
      refine go_iload_n (q := 3) dX6_best_18 rfl rfl ?_
      refine go_iconst (v := 0) dX6_best_19 (by decide) ?_
      refine go_iconst (v := 1) dX6_best_20 (by decide) ?_
      refine go_cSI (As := [aI x3, aI 0, aI 1]) (st := []) ms_X6_isWithin dX6_best_21 ml_X6_79 (hr_Kp (Nat.le_refl d)) rfl rfl (Nat.le_of_ble_eq_true rfl) h (fun x_6 V_5 h => ?_)
      refine go_if_ne (tgt := 30) dX6_best_24 (by decide) (fun c_9 => ?_) (fun c_9 => ?_)
      · have h := h.1 c_9
        refine go_iconst (v := 0) dX6_best_30 (by decide) ?_
        refine go_istore (al1 := [(4, aI 0), (0, aR 0 0), (1, aI x1), (2, aI x2), (3, aI x3)]) dX6_best_31 (by decide) rfl ?_
        refine go_aload_n (q := 1) dX6_best_33 rfl rfl ?_
        refine go_iload_n (q := 2) dX6_best_34 rfl rfl ?_
        refine go_iload_n (q := 3) dX6_best_35 rfl rfl ?_
        refine go_iconst (v := 0) dX6_best_36 (by decide) ?_
        refine go_cVI (As := [aI x1, aI x2, aI 0]) (st := []) (r := 0) (i := 0) mv_X6_yieldOfHeat dX6_best_37 ml_X6_207 (hr_Kp (Nat.le_refl d)) rfl rfl (mX (n := 1) (by decide) rfl (by omega)) rfl rfl (Nat.le_of_ble_eq_true rfl) h (fun x_8 V_7 h => ?_)
        refine go_istore (al1 := [(5, aI x_8), (4, aI 0), (0, aR 0 0), (1, aI x1), (2, aI x2), (3, aI x3)]) dX6_best_40 (by decide) rfl ?_
        refine go_iconst (v := 1) dX6_best_42 (by decide) ?_
        refine go_istore (al1 := [(6, aI 1), (5, aI x_8), (4, aI 0), (0, aR 0 0), (1, aI x1), (2, aI x2), (3, aI x3)]) dX6_best_43 (by decide) rfl ?_
        refine go_sub (al1 := [(0, aR 0 0), (1, aI x1), (2, aI x2), (3, aI x3), (4, aI 0), (5, aI x_8), (6, aI 1)]) [3, 4, 5, 6, 2, 1, 0] rfl ?_
        exact hk45 x1 x2 x3 0 x_8 1  V_7 h
      · have h := h.2 c_9
        refine go_ldc dX6_best_27 ct_X6_83 ?_
        exact go_iret rfl dX6_best_29 h
theorem clX6_best {d : Nat} {P : Option AV → Mem → Prop} {I45 : Int32 → Int32 → Int32 → Int32 → Int32 → Int32 → Mem → Prop}   (x1 : Int32) (x2 : Int32) (x3 : Int32) (V : Mem) (hk45 : ∀ (x1 : Int32) (x2 : Int32) (x3 : Int32) (x4 : Int32) (x5 : Int32) (x6 : Int32), ∀ (V : Mem), I45 x1 x2 x3 x4 x5 x6 V → Gq (Kp (d + 1) mX6_best UX P) UX cX6_best 8 RX6 45 [(0, aR 0 0), (1, aI x1), (2, aI x2), (3, aI x3), (4, aI x4), (5, aI x5), (6, aI x6)] [] V) (h : wpX6_best_0 (Cl UX d) I45  x1 x2 x3 V P) : Cl UX (d + 1) mX6_best [aR 0 0, aI x1, aI x2, aI x3] V P :=
  cl_of [(0, aR 0 0), (1, aI x1), (2, aI x2), (3, aI x3)] (by decide) (fun _ => Nat.le_of_ble_eq_true rfl) (fun _ => rfl) (okX6_best_0   x1 x2 x3 V hk45 h)
theorem dX6_leastRoom_0 : decode cX6_leastRoom 0 = .ok (.aload_n 0, 1) := by decide +kernel
theorem dX6_leastRoom_1 : decode cX6_leastRoom 1 = .ok (.iload_n 1, 1) := by decide +kernel
theorem dX6_leastRoom_2 : decode cX6_leastRoom 2 = .ok (.invokevirtual 92, 3) := by decide +kernel
theorem dX6_leastRoom_5 : decode cX6_leastRoom 5 = .ok (.ifCond .eq 14, 3) := by decide +kernel
theorem dX6_leastRoom_8 : decode cX6_leastRoom 8 = .ok (.iload_n 2, 1) := by decide +kernel
theorem dX6_leastRoom_9 : decode cX6_leastRoom 9 = .ok (.iconst 0, 1) := by decide +kernel
theorem dX6_leastRoom_10 : decode cX6_leastRoom 10 = .ok (.sipush 200, 3) := by decide +kernel
theorem dX6_leastRoom_13 : decode cX6_leastRoom 13 = .ok (.invokestatic 79, 3) := by decide +kernel
theorem dX6_leastRoom_16 : decode cX6_leastRoom 16 = .ok (.ifCond .ne 6, 3) := by decide +kernel
theorem dX6_leastRoom_19 : decode cX6_leastRoom 19 = .ok (.ldc 83, 2) := by decide +kernel
theorem dX6_leastRoom_21 : decode cX6_leastRoom 21 = .ok (.ireturn, 1) := by decide +kernel
theorem dX6_leastRoom_22 : decode cX6_leastRoom 22 = .ok (.aload_n 0, 1) := by decide +kernel
theorem dX6_leastRoom_23 : decode cX6_leastRoom 23 = .ok (.getfield 28, 3) := by decide +kernel
theorem dX6_leastRoom_26 : decode cX6_leastRoom 26 = .ok (.aload_n 0, 1) := by decide +kernel
theorem dX6_leastRoom_27 : decode cX6_leastRoom 27 = .ok (.getfield 21, 3) := by decide +kernel
theorem dX6_leastRoom_30 : decode cX6_leastRoom 30 = .ok (.invokevirtual 203, 3) := by decide +kernel
theorem dX6_leastRoom_33 : decode cX6_leastRoom 33 = .ok (.aload_n 0, 1) := by decide +kernel
theorem dX6_leastRoom_34 : decode cX6_leastRoom 34 = .ok (.getfield 28, 3) := by decide +kernel
theorem dX6_leastRoom_37 : decode cX6_leastRoom 37 = .ok (.getfield 95, 3) := by decide +kernel
theorem dX6_leastRoom_40 : decode cX6_leastRoom 40 = .ok (.iload_n 1, 1) := by decide +kernel
theorem dX6_leastRoom_41 : decode cX6_leastRoom 41 = .ok (.aaload, 1) := by decide +kernel
theorem dX6_leastRoom_42 : decode cX6_leastRoom 42 = .ok (.astore_n 3, 1) := by decide +kernel
theorem dX6_leastRoom_43 : decode cX6_leastRoom 43 = .ok (.aload_n 3, 1) := by decide +kernel
theorem dX6_leastRoom_44 : decode cX6_leastRoom 44 = .ok (.ldc 211, 2) := by decide +kernel
theorem dX6_leastRoom_46 : decode cX6_leastRoom 46 = .ok (.putfield 110, 3) := by decide +kernel
theorem dX6_leastRoom_49 : decode cX6_leastRoom 49 = .ok (.aload_n 3, 1) := by decide +kernel
theorem dX6_leastRoom_50 : decode cX6_leastRoom 50 = .ok (.getfield 113, 3) := by decide +kernel
theorem dX6_leastRoom_53 : decode cX6_leastRoom 53 = .ok (.istore 4, 2) := by decide +kernel
theorem dX6_leastRoom_55 : decode cX6_leastRoom 55 = .ok (.iconst 0, 1) := by decide +kernel
theorem dX6_leastRoom_56 : decode cX6_leastRoom 56 = .ok (.istore 5, 2) := by decide +kernel
theorem dX6_leastRoom_58 : decode cX6_leastRoom 58 = .ok (.iload 5, 2) := by decide +kernel
theorem dX6_leastRoom_60 : decode cX6_leastRoom 60 = .ok (.iload_n 2, 1) := by decide +kernel
theorem dX6_leastRoom_61 : decode cX6_leastRoom 61 = .ok (.if_icmp .ge 28, 3) := by decide +kernel
theorem dX6_leastRoom_64 : decode cX6_leastRoom 64 = .ok (.aload_n 0, 1) := by decide +kernel
theorem dX6_leastRoom_65 : decode cX6_leastRoom 65 = .ok (.getfield 28, 3) := by decide +kernel
theorem dX6_leastRoom_68 : decode cX6_leastRoom 68 = .ok (.invokevirtual 212, 3) := by decide +kernel
theorem dX6_leastRoom_71 : decode cX6_leastRoom 71 = .ok (.pop, 1) := by decide +kernel
theorem dX6_leastRoom_72 : decode cX6_leastRoom 72 = .ok (.iload 4, 2) := by decide +kernel
theorem dX6_leastRoom_74 : decode cX6_leastRoom 74 = .ok (.aload_n 3, 1) := by decide +kernel
theorem dX6_leastRoom_75 : decode cX6_leastRoom 75 = .ok (.getfield 113, 3) := by decide +kernel
theorem dX6_leastRoom_78 : decode cX6_leastRoom 78 = .ok (.invokestatic 215, 3) := by decide +kernel
theorem dX6_leastRoom_81 : decode cX6_leastRoom 81 = .ok (.istore 4, 2) := by decide +kernel
theorem dX6_leastRoom_83 : decode cX6_leastRoom 83 = .ok (.iinc 5 1, 3) := by decide +kernel
theorem dX6_leastRoom_86 : decode cX6_leastRoom 86 = .ok (.goto (-28), 3) := by decide +kernel
theorem dX6_leastRoom_89 : decode cX6_leastRoom 89 = .ok (.iload 4, 2) := by decide +kernel
theorem dX6_leastRoom_91 : decode cX6_leastRoom 91 = .ok (.ireturn, 1) := by decide +kernel
def wpX6_leastRoom_58 (C : CT) (I58 : Int32 → Int32 → Nat → Int32 → Int32 → Mem → Prop)  (x1 : Int32) (x2 : Int32) (m3 : Nat) (x4 : Int32) (x5 : Int32) (V : Mem) (Q : Option AV → Mem → Prop) : Prop :=
  ((x2 ≤ x5 → Q (some (aI x4)) V) ∧ (¬ x2 ≤ x5 → (cI C mX5_passHour [aR 2 2] V (fun x_2 V_1 => (∀ z_3 : Int32, z_3 = (if x4 < (V_1 3 m3 4) then (V_1 3 m3 4) else x4) → I58 x1 x2 m3 z_3 (x5 + 1) V_1)))))
set_option maxRecDepth 10000 in
theorem okX6_leastRoom_58 {d : Nat} {P : Option AV → Mem → Prop} {I58 : Int32 → Int32 → Nat → Int32 → Int32 → Mem → Prop}   (x1 : Int32) (x2 : Int32) (m3 : Nat) (x4 : Int32) (x5 : Int32) (h_m3 : m3 < 29) (V : Mem) (hk58 : ∀ (x1 : Int32) (x2 : Int32) (m3 : Nat) (x4 : Int32) (x5 : Int32), m3 < 29 → ∀ (V : Mem), I58 x1 x2 m3 x4 x5 V → Gq (Kp (d + 1) mX6_leastRoom UX P) UX cX6_leastRoom 6 RX6 58 [(0, aR 0 0), (1, aI x1), (2, aI x2), (3, aR 3 m3), (4, aI x4), (5, aI x5)] [] V) (h : wpX6_leastRoom_58 (Cl UX d) I58  x1 x2 m3 x4 x5 V P) : Gq (Kp (d + 1) mX6_leastRoom UX P) UX cX6_leastRoom 6 RX6 58 [(0, aR 0 0), (1, aI x1), (2, aI x2), (3, aR 3 m3), (4, aI x4), (5, aI x5)] [] V := by
  unfold wpX6_leastRoom_58 at h
  refine go_iload (q := 5) dX6_leastRoom_58 rfl ?_
  refine go_iload_n (q := 2) dX6_leastRoom_60 rfl rfl ?_
  refine go_icmp_ge (tgt := 89) dX6_leastRoom_61 (by decide) (fun c_4 => ?_) (fun c_4 => ?_)
  · have h := h.1 c_4
    refine go_iload (q := 4) dX6_leastRoom_89 rfl ?_
    exact go_iret rfl dX6_leastRoom_91 h
  · have h := h.2 c_4
    refine go_aload_n (q := 0) dX6_leastRoom_64 rfl rfl ?_
    refine go_getr fg_X6_28 dX6_leastRoom_65 (mX (n := 1) (by decide) rfl (by omega)) ?_
    refine go_cVI (As := []) (st := []) (r := 2) (i := 2) mv_X5_passHour dX6_leastRoom_68 ml_X6_212 (hr_Kp (Nat.le_refl d)) rfl rfl (mX (n := 3) (by decide) rfl (by omega)) rfl rfl (Nat.le_of_ble_eq_true rfl) h (fun x_2 V_1 h => ?_)
    refine go_pop dX6_leastRoom_71 rfl ?_
    refine go_iload (q := 4) dX6_leastRoom_72 rfl ?_
    refine go_aload_n (q := 3) dX6_leastRoom_74 rfl rfl ?_
    refine go_geti fg_X6_113 dX6_leastRoom_75 (mX (n := 29) (by decide) rfl (by omega)) ?_
    refine go_mmax ml_X6_215 mt_max1 mt_ini mt_max2 (hr_Kp (Nat.zero_le d)) (Nat.le_of_ble_eq_true rfl) dX6_leastRoom_78 ?_
    refine nmI (fun z_3 e_z_3 => ?_)
    have h := h z_3 e_z_3
    refine go_istore (al1 := [(4, aI z_3), (0, aR 0 0), (1, aI x1), (2, aI x2), (3, aR 3 m3), (5, aI x5)]) dX6_leastRoom_81 (by decide) rfl ?_
    refine go_iinc (q := 5) (y := 1) (al1 := [(5, aI (x5 + 1)), (4, aI z_3), (0, aR 0 0), (1, aI x1), (2, aI x2), (3, aR 3 m3)]) dX6_leastRoom_83 rfl (by decide) (by decide) rfl ?_
    refine go_goto (tgt := 58) dX6_leastRoom_86 (by decide) ?_
    refine go_sub (al1 := [(0, aR 0 0), (1, aI x1), (2, aI x2), (3, aR 3 m3), (4, aI z_3), (5, aI (x5 + 1))]) [2, 3, 4, 5, 1, 0] rfl ?_
    exact hk58 x1 x2 m3 z_3 (x5 + 1) (by omega) V_1 h
def wpX6_leastRoom_0 (C : CT) (I58 : Int32 → Int32 → Nat → Int32 → Int32 → Mem → Prop)  (x1 : Int32) (x2 : Int32) (V : Mem) (Q : Option AV → Mem → Prop) : Prop :=
  (cI C mX6_isRoof [aR 0 0, aI x1] V (fun x_2 V_1 => ((x_2 = 0 → Q (some (aI (-1000000001))) V_1) ∧ (¬ x_2 = 0 → (cI C mX6_isWithin [aI x2, aI 0, aI 200] V_1 (fun x_4 V_3 => ((¬ x_4 = 0 → (cV C mX5_become [aR 2 2, aR 2 0] V_3 (fun V_5 => (∃ j_6 : Nat, x1 = nI j_6 ∧ j_6 < 8 ∧ (∀ V_7 : Mem, V_7 = mu V_5 3 (8 * 2 + j_6) 3 99999 → (∀ z_8 : Int32, z_8 = (V_7 3 (8 * 2 + j_6) 4) → I58 x1 x2 (8 * 2 + j_6) z_8 0 V_7)))))) ∧ (x_4 = 0 → Q (some (aI (-1000000001))) V_3))))))))
set_option maxRecDepth 10000 in
theorem okX6_leastRoom_0 {d : Nat} {P : Option AV → Mem → Prop} {I58 : Int32 → Int32 → Nat → Int32 → Int32 → Mem → Prop}   (x1 : Int32) (x2 : Int32)  (V : Mem) (hk58 : ∀ (x1 : Int32) (x2 : Int32) (m3 : Nat) (x4 : Int32) (x5 : Int32), m3 < 29 → ∀ (V : Mem), I58 x1 x2 m3 x4 x5 V → Gq (Kp (d + 1) mX6_leastRoom UX P) UX cX6_leastRoom 6 RX6 58 [(0, aR 0 0), (1, aI x1), (2, aI x2), (3, aR 3 m3), (4, aI x4), (5, aI x5)] [] V) (h : wpX6_leastRoom_0 (Cl UX d) I58  x1 x2 V P) : Gq (Kp (d + 1) mX6_leastRoom UX P) UX cX6_leastRoom 6 RX6 0 [(0, aR 0 0), (1, aI x1), (2, aI x2)] [] V := by
  unfold wpX6_leastRoom_0 at h
  refine go_aload_n (q := 0) dX6_leastRoom_0 rfl rfl ?_
  refine go_iload_n (q := 1) dX6_leastRoom_1 rfl rfl ?_
  refine go_cVI (As := [aI x1]) (st := []) (r := 0) (i := 0) mv_X6_isRoof dX6_leastRoom_2 ml_X6_92 (hr_Kp (Nat.le_refl d)) rfl rfl (mX (n := 1) (by decide) rfl (by omega)) rfl rfl (Nat.le_of_ble_eq_true rfl) h (fun x_2 V_1 h => ?_)
  refine go_if_eq (tgt := 19) dX6_leastRoom_5 (by decide) (fun c_10 => ?_) (fun c_10 => ?_)
  · have h := h.1 c_10
    refine go_ldc dX6_leastRoom_19 ct_X6_83 ?_
    exact go_iret rfl dX6_leastRoom_21 h
  · have h := h.2 c_10
    refine go_iload_n (q := 2) dX6_leastRoom_8 rfl rfl ?_
    refine go_iconst (v := 0) dX6_leastRoom_9 (by decide) ?_
    refine go_sipush (v := 200) dX6_leastRoom_10 (by decide) ?_
    refine go_cSI (As := [aI x2, aI 0, aI 200]) (st := []) ms_X6_isWithin dX6_leastRoom_13 ml_X6_79 (hr_Kp (Nat.le_refl d)) rfl rfl (Nat.le_of_ble_eq_true rfl) h (fun x_4 V_3 h => ?_)
    refine go_if_ne (tgt := 22) dX6_leastRoom_16 (by decide) (fun c_9 => ?_) (fun c_9 => ?_)
    · have h := h.1 c_9
      refine go_aload_n (q := 0) dX6_leastRoom_22 rfl rfl ?_
      refine go_getr fg_X6_28 dX6_leastRoom_23 (mX (n := 1) (by decide) rfl (by omega)) ?_
      refine go_aload_n (q := 0) dX6_leastRoom_26 rfl rfl ?_
      refine go_getr fg_X6_21 dX6_leastRoom_27 (mX (n := 1) (by decide) rfl (by omega)) ?_
      refine go_cVV (As := [aR 2 0]) (st := []) (r := 2) (i := 2) mv_X5_become dX6_leastRoom_30 ml_X6_203 (hr_Kp (Nat.le_refl d)) rfl rfl (mX (n := 3) (by decide) rfl (by omega)) rfl rfl (Nat.le_of_ble_eq_true rfl) h (fun V_5 h => ?_)
      refine go_aload_n (q := 0) dX6_leastRoom_33 rfl rfl ?_
      refine go_getr fg_X6_28 dX6_leastRoom_34 (mX (n := 1) (by decide) rfl (by omega)) ?_
      refine go_getr fg_X6_95 dX6_leastRoom_37 (mX (n := 3) (by decide) rfl (by omega)) ?_
      refine go_iload_n (q := 1) dX6_leastRoom_40 rfl rfl ?_
      obtain ⟨j_6, e_j_6, l_j_6, h⟩ := h
      refine go_aald (r := 13) (n := 8) (j := j_6) rfl rfl (by decide) dX6_leastRoom_41 (mX (n := 3) (by decide) rfl (by omega)) e_j_6 l_j_6 ?_
      refine go_astore_n (al1 := [(3, aR 3 (8 * 2 + j_6)), (0, aR 0 0), (1, aI x1), (2, aI x2)]) dX6_leastRoom_42 rfl (by decide) rfl ?_
      refine go_aload_n (q := 0) dX6_leastRoom_43 rfl rfl ?_
      refine go_ldc dX6_leastRoom_44 ct_X6_211 ?_
      refine go_puti fp_X6_110 dX6_leastRoom_46 (mX (n := 29) (by decide) rfl (by omega)) ?_
      refine nmV (fun V_7 e_V_7 => ?_)
      have h := h V_7 e_V_7
      refine go_aload_n (q := 0) dX6_leastRoom_49 rfl rfl ?_
      refine go_geti fg_X6_113 dX6_leastRoom_50 (mX (n := 29) (by decide) rfl (by omega)) ?_
      refine nmI (fun z_8 e_z_8 => ?_)
      have h := h z_8 e_z_8
      refine go_istore (al1 := [(4, aI z_8), (3, aR 3 (8 * 2 + j_6)), (0, aR 0 0), (1, aI x1), (2, aI x2)]) dX6_leastRoom_53 (by decide) rfl ?_
      refine go_iconst (v := 0) dX6_leastRoom_55 (by decide) ?_
      refine go_istore (al1 := [(5, aI 0), (4, aI z_8), (3, aR 3 (8 * 2 + j_6)), (0, aR 0 0), (1, aI x1), (2, aI x2)]) dX6_leastRoom_56 (by decide) rfl ?_
      refine go_sub (al1 := [(0, aR 0 0), (1, aI x1), (2, aI x2), (3, aR 3 (8 * 2 + j_6)), (4, aI z_8), (5, aI 0)]) [3, 4, 5, 2, 1, 0] rfl ?_
      exact hk58 x1 x2 (8 * 2 + j_6) z_8 0 (by omega) V_7 h
    · have h := h.2 c_9
      refine go_ldc dX6_leastRoom_19 ct_X6_83 ?_
      exact go_iret rfl dX6_leastRoom_21 h
theorem clX6_leastRoom {d : Nat} {P : Option AV → Mem → Prop} {I58 : Int32 → Int32 → Nat → Int32 → Int32 → Mem → Prop}   (x1 : Int32) (x2 : Int32) (V : Mem) (hk58 : ∀ (x1 : Int32) (x2 : Int32) (m3 : Nat) (x4 : Int32) (x5 : Int32), m3 < 29 → ∀ (V : Mem), I58 x1 x2 m3 x4 x5 V → Gq (Kp (d + 1) mX6_leastRoom UX P) UX cX6_leastRoom 6 RX6 58 [(0, aR 0 0), (1, aI x1), (2, aI x2), (3, aR 3 m3), (4, aI x4), (5, aI x5)] [] V) (h : wpX6_leastRoom_0 (Cl UX d) I58  x1 x2 V P) : Cl UX (d + 1) mX6_leastRoom [aR 0 0, aI x1, aI x2] V P :=
  cl_of [(0, aR 0 0), (1, aI x1), (2, aI x2)] (by decide) (fun _ => Nat.le_of_ble_eq_true rfl) (fun _ => rfl) (okX6_leastRoom_0   x1 x2 V hk58 h)
theorem dX6_slide_0 : decode cX6_slide 0 = .ok (.aload_n 0, 1) := by decide +kernel
theorem dX6_slide_1 : decode cX6_slide 1 = .ok (.getfield 28, 3) := by decide +kernel
theorem dX6_slide_4 : decode cX6_slide 4 = .ok (.aload_n 0, 1) := by decide +kernel
theorem dX6_slide_5 : decode cX6_slide 5 = .ok (.getfield 21, 3) := by decide +kernel
theorem dX6_slide_8 : decode cX6_slide 8 = .ok (.invokevirtual 203, 3) := by decide +kernel
theorem dX6_slide_11 : decode cX6_slide 11 = .ok (.iconst 1, 1) := by decide +kernel
theorem dX6_slide_12 : decode cX6_slide 12 = .ok (.istore_n 1, 1) := by decide +kernel
theorem dX6_slide_13 : decode cX6_slide 13 = .ok (.iload_n 1, 1) := by decide +kernel
theorem dX6_slide_14 : decode cX6_slide 14 = .ok (.sipush 200, 3) := by decide +kernel
theorem dX6_slide_17 : decode cX6_slide 17 = .ok (.if_icmp .gt 21, 3) := by decide +kernel
theorem dX6_slide_20 : decode cX6_slide 20 = .ok (.aload_n 0, 1) := by decide +kernel
theorem dX6_slide_21 : decode cX6_slide 21 = .ok (.getfield 28, 3) := by decide +kernel
theorem dX6_slide_24 : decode cX6_slide 24 = .ok (.invokevirtual 212, 3) := by decide +kernel
theorem dX6_slide_27 : decode cX6_slide 27 = .ok (.ifCond .le 5, 3) := by decide +kernel
theorem dX6_slide_30 : decode cX6_slide 30 = .ok (.iload_n 1, 1) := by decide +kernel
theorem dX6_slide_31 : decode cX6_slide 31 = .ok (.ireturn, 1) := by decide +kernel
theorem dX6_slide_32 : decode cX6_slide 32 = .ok (.iinc 1 1, 3) := by decide +kernel
theorem dX6_slide_35 : decode cX6_slide 35 = .ok (.goto (-22), 3) := by decide +kernel
theorem dX6_slide_38 : decode cX6_slide 38 = .ok (.ldc 218, 2) := by decide +kernel
theorem dX6_slide_40 : decode cX6_slide 40 = .ok (.ireturn, 1) := by decide +kernel
def wpX6_slide_13 (C : CT) (I13 : Int32 → Mem → Prop)  (x1 : Int32) (V : Mem) (Q : Option AV → Mem → Prop) : Prop :=
  ((200 < x1 → Q (some (aI (-1000000005))) V) ∧ (¬ 200 < x1 → (cI C mX5_passHour [aR 2 2] V (fun x_2 V_1 => ((x_2 ≤ 0 → I13 (x1 + 1) V_1) ∧ (¬ x_2 ≤ 0 → Q (some (aI x1)) V_1))))))
set_option maxRecDepth 10000 in
theorem okX6_slide_13 {d : Nat} {P : Option AV → Mem → Prop} {I13 : Int32 → Mem → Prop}   (x1 : Int32)  (V : Mem) (hk13 : ∀ (x1 : Int32), ∀ (V : Mem), I13 x1 V → Gq (Kp (d + 1) mX6_slide UX P) UX cX6_slide 2 RX6 13 [(0, aR 0 0), (1, aI x1)] [] V) (h : wpX6_slide_13 (Cl UX d) I13  x1 V P) : Gq (Kp (d + 1) mX6_slide UX P) UX cX6_slide 2 RX6 13 [(0, aR 0 0), (1, aI x1)] [] V := by
  unfold wpX6_slide_13 at h
  refine go_iload_n (q := 1) dX6_slide_13 rfl rfl ?_
  refine go_sipush (v := 200) dX6_slide_14 (by decide) ?_
  refine go_icmp_gt (tgt := 38) dX6_slide_17 (by decide) (fun c_4 => ?_) (fun c_4 => ?_)
  · have h := h.1 c_4
    refine go_ldc dX6_slide_38 ct_X6_218 ?_
    exact go_iret rfl dX6_slide_40 h
  · have h := h.2 c_4
    refine go_aload_n (q := 0) dX6_slide_20 rfl rfl ?_
    refine go_getr fg_X6_28 dX6_slide_21 (mX (n := 1) (by decide) rfl (by omega)) ?_
    refine go_cVI (As := []) (st := []) (r := 2) (i := 2) mv_X5_passHour dX6_slide_24 ml_X6_212 (hr_Kp (Nat.le_refl d)) rfl rfl (mX (n := 3) (by decide) rfl (by omega)) rfl rfl (Nat.le_of_ble_eq_true rfl) h (fun x_2 V_1 h => ?_)
    refine go_if_le (tgt := 32) dX6_slide_27 (by decide) (fun c_3 => ?_) (fun c_3 => ?_)
    · have h := h.1 c_3
      refine go_iinc (q := 1) (y := 1) (al1 := [(1, aI (x1 + 1)), (0, aR 0 0)]) dX6_slide_32 rfl (by decide) (by decide) rfl ?_
      refine go_goto (tgt := 13) dX6_slide_35 (by decide) ?_
      refine go_sub (al1 := [(0, aR 0 0), (1, aI (x1 + 1))]) [1, 0] rfl ?_
      exact hk13 (x1 + 1)  V_1 h
    · have h := h.2 c_3
      refine go_iload_n (q := 1) dX6_slide_30 rfl rfl ?_
      exact go_iret rfl dX6_slide_31 h
def wpX6_slide_0 (C : CT) (I13 : Int32 → Mem → Prop)   (V : Mem) (Q : Option AV → Mem → Prop) : Prop :=
  (cV C mX5_become [aR 2 2, aR 2 0] V (fun V_1 => I13 1 V_1))
set_option maxRecDepth 10000 in
theorem okX6_slide_0 {d : Nat} {P : Option AV → Mem → Prop} {I13 : Int32 → Mem → Prop}     (V : Mem) (hk13 : ∀ (x1 : Int32), ∀ (V : Mem), I13 x1 V → Gq (Kp (d + 1) mX6_slide UX P) UX cX6_slide 2 RX6 13 [(0, aR 0 0), (1, aI x1)] [] V) (h : wpX6_slide_0 (Cl UX d) I13   V P) : Gq (Kp (d + 1) mX6_slide UX P) UX cX6_slide 2 RX6 0 [(0, aR 0 0)] [] V := by
  unfold wpX6_slide_0 at h
  refine go_aload_n (q := 0) dX6_slide_0 rfl rfl ?_
  refine go_getr fg_X6_28 dX6_slide_1 (mX (n := 1) (by decide) rfl (by omega)) ?_
  refine go_aload_n (q := 0) dX6_slide_4 rfl rfl ?_
  refine go_getr fg_X6_21 dX6_slide_5 (mX (n := 1) (by decide) rfl (by omega)) ?_
  refine go_cVV (As := [aR 2 0]) (st := []) (r := 2) (i := 2) mv_X5_become dX6_slide_8 ml_X6_203 (hr_Kp (Nat.le_refl d)) rfl rfl (mX (n := 3) (by decide) rfl (by omega)) rfl rfl (Nat.le_of_ble_eq_true rfl) h (fun V_1 h => ?_)
  refine go_iconst (v := 1) dX6_slide_11 (by decide) ?_
  refine go_istore_n (al1 := [(1, aI 1), (0, aR 0 0)]) dX6_slide_12 rfl (by decide) rfl ?_
  refine go_sub (al1 := [(0, aR 0 0), (1, aI 1)]) [1, 0] rfl ?_
  exact hk13 1  V_1 h
theorem clX6_slide {d : Nat} {P : Option AV → Mem → Prop} {I13 : Int32 → Mem → Prop}    (V : Mem) (hk13 : ∀ (x1 : Int32), ∀ (V : Mem), I13 x1 V → Gq (Kp (d + 1) mX6_slide UX P) UX cX6_slide 2 RX6 13 [(0, aR 0 0), (1, aI x1)] [] V) (h : wpX6_slide_0 (Cl UX d) I13   V P) : Cl UX (d + 1) mX6_slide [aR 0 0] V P :=
  cl_of [(0, aR 0 0)] (by decide) (fun _ => Nat.le_of_ble_eq_true rfl) (fun _ => rfl) (okX6_slide_0    V hk13 h)
theorem dX6_gains_0 : decode cX6_gains 0 = .ok (.iload_n 1, 1) := by decide +kernel
theorem dX6_gains_1 : decode cX6_gains 1 = .ok (.iconst 0, 1) := by decide +kernel
theorem dX6_gains_2 : decode cX6_gains 2 = .ok (.bipush 24, 2) := by decide +kernel
theorem dX6_gains_4 : decode cX6_gains 4 = .ok (.invokestatic 79, 3) := by decide +kernel
theorem dX6_gains_7 : decode cX6_gains 7 = .ok (.ifCond .eq 13, 3) := by decide +kernel
theorem dX6_gains_10 : decode cX6_gains 10 = .ok (.iload_n 2, 1) := by decide +kernel
theorem dX6_gains_11 : decode cX6_gains 11 = .ok (.iconst 1, 1) := by decide +kernel
theorem dX6_gains_12 : decode cX6_gains 12 = .ok (.bipush 72, 2) := by decide +kernel
theorem dX6_gains_14 : decode cX6_gains 14 = .ok (.invokestatic 79, 3) := by decide +kernel
theorem dX6_gains_17 : decode cX6_gains 17 = .ok (.ifCond .ne 6, 3) := by decide +kernel
theorem dX6_gains_20 : decode cX6_gains 20 = .ok (.ldc 83, 2) := by decide +kernel
theorem dX6_gains_22 : decode cX6_gains 22 = .ok (.ireturn, 1) := by decide +kernel
theorem dX6_gains_23 : decode cX6_gains 23 = .ok (.aload_n 0, 1) := by decide +kernel
theorem dX6_gains_24 : decode cX6_gains 24 = .ok (.iload_n 2, 1) := by decide +kernel
theorem dX6_gains_25 : decode cX6_gains 25 = .ok (.invokevirtual 219, 3) := by decide +kernel
theorem dX6_gains_28 : decode cX6_gains 28 = .ok (.aload_n 0, 1) := by decide +kernel
theorem dX6_gains_29 : decode cX6_gains 29 = .ok (.getfield 28, 3) := by decide +kernel
theorem dX6_gains_32 : decode cX6_gains 32 = .ok (.aload_n 0, 1) := by decide +kernel
theorem dX6_gains_33 : decode cX6_gains 33 = .ok (.getfield 21, 3) := by decide +kernel
theorem dX6_gains_36 : decode cX6_gains 36 = .ok (.invokevirtual 203, 3) := by decide +kernel
theorem dX6_gains_39 : decode cX6_gains 39 = .ok (.aload_n 0, 1) := by decide +kernel
theorem dX6_gains_40 : decode cX6_gains 40 = .ok (.getfield 28, 3) := by decide +kernel
theorem dX6_gains_43 : decode cX6_gains 43 = .ok (.iload_n 1, 1) := by decide +kernel
theorem dX6_gains_44 : decode cX6_gains 44 = .ok (.putfield 181, 3) := by decide +kernel
theorem dX6_gains_47 : decode cX6_gains 47 = .ok (.aload_n 0, 1) := by decide +kernel
theorem dX6_gains_48 : decode cX6_gains 48 = .ok (.getfield 28, 3) := by decide +kernel
theorem dX6_gains_51 : decode cX6_gains 51 = .ok (.iload_n 2, 1) := by decide +kernel
theorem dX6_gains_52 : decode cX6_gains 52 = .ok (.invokevirtual 187, 3) := by decide +kernel
theorem dX6_gains_55 : decode cX6_gains 55 = .ok (.pop, 1) := by decide +kernel
theorem dX6_gains_56 : decode cX6_gains 56 = .ok (.ldc 218, 2) := by decide +kernel
theorem dX6_gains_58 : decode cX6_gains 58 = .ok (.istore_n 3, 1) := by decide +kernel
theorem dX6_gains_59 : decode cX6_gains 59 = .ok (.iconst 0, 1) := by decide +kernel
theorem dX6_gains_60 : decode cX6_gains 60 = .ok (.istore 4, 2) := by decide +kernel
theorem dX6_gains_62 : decode cX6_gains 62 = .ok (.iconst 0, 1) := by decide +kernel
theorem dX6_gains_63 : decode cX6_gains 63 = .ok (.istore 5, 2) := by decide +kernel
theorem dX6_gains_65 : decode cX6_gains 65 = .ok (.iload 5, 2) := by decide +kernel
theorem dX6_gains_67 : decode cX6_gains 67 = .ok (.aload_n 0, 1) := by decide +kernel
theorem dX6_gains_68 : decode cX6_gains 68 = .ok (.getfield 28, 3) := by decide +kernel
theorem dX6_gains_71 : decode cX6_gains 71 = .ok (.getfield 84, 3) := by decide +kernel
theorem dX6_gains_74 : decode cX6_gains 74 = .ok (.if_icmp .ge 52, 3) := by decide +kernel
theorem dX6_gains_77 : decode cX6_gains 77 = .ok (.aload_n 0, 1) := by decide +kernel
theorem dX6_gains_78 : decode cX6_gains 78 = .ok (.getfield 28, 3) := by decide +kernel
theorem dX6_gains_81 : decode cX6_gains 81 = .ok (.getfield 95, 3) := by decide +kernel
theorem dX6_gains_84 : decode cX6_gains 84 = .ok (.iload 5, 2) := by decide +kernel
theorem dX6_gains_86 : decode cX6_gains 86 = .ok (.aaload, 1) := by decide +kernel
theorem dX6_gains_87 : decode cX6_gains 87 = .ok (.getfield 113, 3) := by decide +kernel
theorem dX6_gains_90 : decode cX6_gains 90 = .ok (.aload_n 0, 1) := by decide +kernel
theorem dX6_gains_91 : decode cX6_gains 91 = .ok (.getfield 70, 3) := by decide +kernel
theorem dX6_gains_94 : decode cX6_gains 94 = .ok (.iload 5, 2) := by decide +kernel
theorem dX6_gains_96 : decode cX6_gains 96 = .ok (.iaload, 1) := by decide +kernel
theorem dX6_gains_97 : decode cX6_gains 97 = .ok (.isub, 1) := by decide +kernel
theorem dX6_gains_98 : decode cX6_gains 98 = .ok (.istore 6, 2) := by decide +kernel
theorem dX6_gains_100 : decode cX6_gains 100 = .ok (.iload_n 3, 1) := by decide +kernel
theorem dX6_gains_101 : decode cX6_gains 101 = .ok (.ldc 218, 2) := by decide +kernel
theorem dX6_gains_103 : decode cX6_gains 103 = .ok (.if_icmp .eq 10, 3) := by decide +kernel
theorem dX6_gains_106 : decode cX6_gains 106 = .ok (.iload 6, 2) := by decide +kernel
theorem dX6_gains_108 : decode cX6_gains 108 = .ok (.iload 4, 2) := by decide +kernel
theorem dX6_gains_110 : decode cX6_gains 110 = .ok (.if_icmp .le 10, 3) := by decide +kernel
theorem dX6_gains_113 : decode cX6_gains 113 = .ok (.iload 5, 2) := by decide +kernel
theorem dX6_gains_115 : decode cX6_gains 115 = .ok (.istore_n 3, 1) := by decide +kernel
theorem dX6_gains_116 : decode cX6_gains 116 = .ok (.iload 6, 2) := by decide +kernel
theorem dX6_gains_118 : decode cX6_gains 118 = .ok (.istore 4, 2) := by decide +kernel
theorem dX6_gains_120 : decode cX6_gains 120 = .ok (.iinc 5 1, 3) := by decide +kernel
theorem dX6_gains_123 : decode cX6_gains 123 = .ok (.goto (-58), 3) := by decide +kernel
theorem dX6_gains_126 : decode cX6_gains 126 = .ok (.iload_n 3, 1) := by decide +kernel
theorem dX6_gains_127 : decode cX6_gains 127 = .ok (.ireturn, 1) := by decide +kernel
def wpX6_gains_65 (C : CT) (I65 : Int32 → Int32 → Int32 → Int32 → Int32 → Mem → Prop)  (x1 : Int32) (x2 : Int32) (x3 : Int32) (x4 : Int32) (x5 : Int32) (V : Mem) (Q : Option AV → Mem → Prop) : Prop :=
  (((V 2 2 6) ≤ x5 → Q (some (aI x3)) V) ∧ (¬ (V 2 2 6) ≤ x5 → (∃ j_1 : Nat, x5 = nI j_1 ∧ j_1 < 8 ∧ (∀ z_2 : Int32, z_2 = ((V 3 (8 * 2 + j_1) 4) - (V 22 0 j_1)) → ((x3 = (-1000000005) → I65 x1 x2 x5 z_2 (x5 + 1) V) ∧ (¬ x3 = (-1000000005) → ((z_2 ≤ x4 → I65 x1 x2 x3 x4 (x5 + 1) V) ∧ (¬ z_2 ≤ x4 → I65 x1 x2 x5 z_2 (x5 + 1) V))))))))
set_option maxRecDepth 10000 in
theorem okX6_gains_65 {d : Nat} {P : Option AV → Mem → Prop} {I65 : Int32 → Int32 → Int32 → Int32 → Int32 → Mem → Prop}   (x1 : Int32) (x2 : Int32) (x3 : Int32) (x4 : Int32) (x5 : Int32)  (V : Mem) (hk65 : ∀ (x1 : Int32) (x2 : Int32) (x3 : Int32) (x4 : Int32) (x5 : Int32), ∀ (V : Mem), I65 x1 x2 x3 x4 x5 V → Gq (Kp (d + 1) mX6_gains UX P) UX cX6_gains 7 RX6 65 [(0, aR 0 0), (1, aI x1), (2, aI x2), (3, aI x3), (4, aI x4), (5, aI x5)] [] V) (h : wpX6_gains_65 (Cl UX d) I65  x1 x2 x3 x4 x5 V P) : Gq (Kp (d + 1) mX6_gains UX P) UX cX6_gains 7 RX6 65 [(0, aR 0 0), (1, aI x1), (2, aI x2), (3, aI x3), (4, aI x4), (5, aI x5)] [] V := by
  unfold wpX6_gains_65 at h
  refine go_iload (q := 5) dX6_gains_65 rfl ?_
  refine go_aload_n (q := 0) dX6_gains_67 rfl rfl ?_
  refine go_getr fg_X6_28 dX6_gains_68 (mX (n := 1) (by decide) rfl (by omega)) ?_
  refine go_geti fg_X6_84 dX6_gains_71 (mX (n := 3) (by decide) rfl (by omega)) ?_
  refine go_icmp_ge (tgt := 126) dX6_gains_74 (by decide) (fun c_5 => ?_) (fun c_5 => ?_)
  · have h := h.1 c_5
    refine go_iload_n (q := 3) dX6_gains_126 rfl rfl ?_
    exact go_iret rfl dX6_gains_127 h
  · have h := h.2 c_5
    refine go_aload_n (q := 0) dX6_gains_77 rfl rfl ?_
    refine go_getr fg_X6_28 dX6_gains_78 (mX (n := 1) (by decide) rfl (by omega)) ?_
    refine go_getr fg_X6_95 dX6_gains_81 (mX (n := 3) (by decide) rfl (by omega)) ?_
    refine go_iload (q := 5) dX6_gains_84 rfl ?_
    obtain ⟨j_1, e_j_1, l_j_1, h⟩ := h
    refine go_aald (r := 13) (n := 8) (j := j_1) rfl rfl (by decide) dX6_gains_86 (mX (n := 3) (by decide) rfl (by omega)) e_j_1 l_j_1 ?_
    refine go_geti fg_X6_113 dX6_gains_87 (mX (n := 29) (by decide) rfl (by omega)) ?_
    refine go_aload_n (q := 0) dX6_gains_90 rfl rfl ?_
    refine go_getr fg_X6_70 dX6_gains_91 (mX (n := 1) (by decide) rfl (by omega)) ?_
    refine go_iload (q := 5) dX6_gains_94 rfl ?_
    refine go_iald (r := 22) (n := 8) (j := j_1) rfl (by decide) dX6_gains_96 (mX (n := 1) (by decide) rfl (by omega)) e_j_1 (by omega) ?_
    refine go_isub dX6_gains_97 ?_
    refine nmI (fun z_2 e_z_2 => ?_)
    have h := h z_2 e_z_2
    refine go_istore (al1 := [(6, aI z_2), (0, aR 0 0), (1, aI x1), (2, aI x2), (3, aI x3), (4, aI x4), (5, aI x5)]) dX6_gains_98 (by decide) rfl ?_
    refine go_iload_n (q := 4) dX6_gains_100 rfl rfl ?_
    refine go_ldc dX6_gains_101 ct_X6_218 ?_
    refine go_icmp_eq (tgt := 113) dX6_gains_103 (by decide) (fun c_4 => ?_) (fun c_4 => ?_)
    · have h := h.1 c_4
      refine go_iload (q := 6) dX6_gains_113 rfl ?_
      refine go_istore_n (al1 := [(3, aI x5), (6, aI z_2), (0, aR 0 0), (1, aI x1), (2, aI x2), (4, aI x4), (5, aI x5)]) dX6_gains_115 rfl (by decide) rfl ?_
      refine go_iload (q := 1) dX6_gains_116 rfl ?_
      refine go_istore (al1 := [(4, aI z_2), (3, aI x5), (6, aI z_2), (0, aR 0 0), (1, aI x1), (2, aI x2), (5, aI x5)]) dX6_gains_118 (by decide) rfl ?_
      refine go_iinc (q := 6) (y := 1) (al1 := [(5, aI (x5 + 1)), (4, aI z_2), (3, aI x5), (6, aI z_2), (0, aR 0 0), (1, aI x1), (2, aI x2)]) dX6_gains_120 rfl (by decide) (by decide) rfl ?_
      refine go_goto (tgt := 65) dX6_gains_123 (by decide) ?_
      refine go_sub (al1 := [(0, aR 0 0), (1, aI x1), (2, aI x2), (3, aI x5), (4, aI z_2), (5, aI (x5 + 1))]) [4, 5, 6, 2, 1, 0] rfl ?_
      exact hk65 x1 x2 x5 z_2 (x5 + 1)  V h
    · have h := h.2 c_4
      refine go_iload (q := 0) dX6_gains_106 rfl ?_
      refine go_iload (q := 5) dX6_gains_108 rfl ?_
      refine go_icmp_le (tgt := 120) dX6_gains_110 (by decide) (fun c_3 => ?_) (fun c_3 => ?_)
      · have h := h.1 c_3
        refine go_iinc (q := 6) (y := 1) (al1 := [(5, aI (x5 + 1)), (6, aI z_2), (0, aR 0 0), (1, aI x1), (2, aI x2), (3, aI x3), (4, aI x4)]) dX6_gains_120 rfl (by decide) (by decide) rfl ?_
        refine go_goto (tgt := 65) dX6_gains_123 (by decide) ?_
        refine go_sub (al1 := [(0, aR 0 0), (1, aI x1), (2, aI x2), (3, aI x3), (4, aI x4), (5, aI (x5 + 1))]) [2, 3, 4, 5, 6, 0] rfl ?_
        exact hk65 x1 x2 x3 x4 (x5 + 1)  V h
      · have h := h.2 c_3
        refine go_iload (q := 6) dX6_gains_113 rfl ?_
        refine go_istore_n (al1 := [(3, aI x5), (6, aI z_2), (0, aR 0 0), (1, aI x1), (2, aI x2), (4, aI x4), (5, aI x5)]) dX6_gains_115 rfl (by decide) rfl ?_
        refine go_iload (q := 1) dX6_gains_116 rfl ?_
        refine go_istore (al1 := [(4, aI z_2), (3, aI x5), (6, aI z_2), (0, aR 0 0), (1, aI x1), (2, aI x2), (5, aI x5)]) dX6_gains_118 (by decide) rfl ?_
        refine go_iinc (q := 6) (y := 1) (al1 := [(5, aI (x5 + 1)), (4, aI z_2), (3, aI x5), (6, aI z_2), (0, aR 0 0), (1, aI x1), (2, aI x2)]) dX6_gains_120 rfl (by decide) (by decide) rfl ?_
        refine go_goto (tgt := 65) dX6_gains_123 (by decide) ?_
        refine go_sub (al1 := [(0, aR 0 0), (1, aI x1), (2, aI x2), (3, aI x5), (4, aI z_2), (5, aI (x5 + 1))]) [4, 5, 6, 2, 1, 0] rfl ?_
        exact hk65 x1 x2 x5 z_2 (x5 + 1)  V h
def wpX6_gains_0 (C : CT) (I65 : Int32 → Int32 → Int32 → Int32 → Int32 → Mem → Prop)  (x1 : Int32) (x2 : Int32) (V : Mem) (Q : Option AV → Mem → Prop) : Prop :=
  (cI C mX6_isWithin [aI x1, aI 0, aI 24] V (fun x_2 V_1 => ((x_2 = 0 → Q (some (aI (-1000000001))) V_1) ∧ (¬ x_2 = 0 → (cI C mX6_isWithin [aI x2, aI 1, aI 72] V_1 (fun x_4 V_3 => ((¬ x_4 = 0 → (cV C mX6_thinkOfWaters [aR 0 0, aI x2] V_3 (fun V_5 => (cV C mX5_become [aR 2 2, aR 2 0] V_5 (fun V_6 => (∀ V_7 : Mem, V_7 = mu V_6 2 2 7 x1 → (cI C mX5_passHours [aR 2 2, aI x2] V_7 (fun x_9 V_8 => I65 x1 x2 (-1000000005) 0 0 V_8)))))))) ∧ (x_4 = 0 → Q (some (aI (-1000000001))) V_3))))))))
set_option maxRecDepth 10000 in
theorem okX6_gains_0 {d : Nat} {P : Option AV → Mem → Prop} {I65 : Int32 → Int32 → Int32 → Int32 → Int32 → Mem → Prop}   (x1 : Int32) (x2 : Int32)  (V : Mem) (hk65 : ∀ (x1 : Int32) (x2 : Int32) (x3 : Int32) (x4 : Int32) (x5 : Int32), ∀ (V : Mem), I65 x1 x2 x3 x4 x5 V → Gq (Kp (d + 1) mX6_gains UX P) UX cX6_gains 7 RX6 65 [(0, aR 0 0), (1, aI x1), (2, aI x2), (3, aI x3), (4, aI x4), (5, aI x5)] [] V) (h : wpX6_gains_0 (Cl UX d) I65  x1 x2 V P) : Gq (Kp (d + 1) mX6_gains UX P) UX cX6_gains 7 RX6 0 [(0, aR 0 0), (1, aI x1), (2, aI x2)] [] V := by
  unfold wpX6_gains_0 at h
  refine go_iload_n (q := 1) dX6_gains_0 rfl rfl ?_
  refine go_iconst (v := 0) dX6_gains_1 (by decide) ?_
  refine go_bipush (v := 24) dX6_gains_2 (by decide) ?_
  refine go_cSI (As := [aI x1, aI 0, aI 24]) (st := []) ms_X6_isWithin dX6_gains_4 ml_X6_79 (hr_Kp (Nat.le_refl d)) rfl rfl (Nat.le_of_ble_eq_true rfl) h (fun x_2 V_1 h => ?_)
  refine go_if_eq (tgt := 20) dX6_gains_7 (by decide) (fun c_11 => ?_) (fun c_11 => ?_)
  · have h := h.1 c_11
    refine go_ldc dX6_gains_20 ct_X6_83 ?_
    exact go_iret rfl dX6_gains_22 h
  · have h := h.2 c_11
    refine go_iload_n (q := 2) dX6_gains_10 rfl rfl ?_
    refine go_iconst (v := 1) dX6_gains_11 (by decide) ?_
    refine go_bipush (v := 72) dX6_gains_12 (by decide) ?_
    refine go_cSI (As := [aI x2, aI 1, aI 72]) (st := []) ms_X6_isWithin dX6_gains_14 ml_X6_79 (hr_Kp (Nat.le_refl d)) rfl rfl (Nat.le_of_ble_eq_true rfl) h (fun x_4 V_3 h => ?_)
    refine go_if_ne (tgt := 23) dX6_gains_17 (by decide) (fun c_10 => ?_) (fun c_10 => ?_)
    · have h := h.1 c_10
      refine go_aload_n (q := 0) dX6_gains_23 rfl rfl ?_
      refine go_iload_n (q := 2) dX6_gains_24 rfl rfl ?_
      refine go_cVV (As := [aI x2]) (st := []) (r := 0) (i := 0) mv_X6_thinkOfWaters dX6_gains_25 ml_X6_219 (hr_Kp (Nat.le_refl d)) rfl rfl (mX (n := 1) (by decide) rfl (by omega)) rfl rfl (Nat.le_of_ble_eq_true rfl) h (fun V_5 h => ?_)
      refine go_aload_n (q := 0) dX6_gains_28 rfl rfl ?_
      refine go_getr fg_X6_28 dX6_gains_29 (mX (n := 1) (by decide) rfl (by omega)) ?_
      refine go_aload_n (q := 0) dX6_gains_32 rfl rfl ?_
      refine go_getr fg_X6_21 dX6_gains_33 (mX (n := 1) (by decide) rfl (by omega)) ?_
      refine go_cVV (As := [aR 2 0]) (st := []) (r := 2) (i := 2) mv_X5_become dX6_gains_36 ml_X6_203 (hr_Kp (Nat.le_refl d)) rfl rfl (mX (n := 3) (by decide) rfl (by omega)) rfl rfl (Nat.le_of_ble_eq_true rfl) h (fun V_6 h => ?_)
      refine go_aload_n (q := 0) dX6_gains_39 rfl rfl ?_
      refine go_getr fg_X6_28 dX6_gains_40 (mX (n := 1) (by decide) rfl (by omega)) ?_
      refine go_iload_n (q := 1) dX6_gains_43 rfl rfl ?_
      refine go_puti fp_X6_181 dX6_gains_44 (mX (n := 3) (by decide) rfl (by omega)) ?_
      refine nmV (fun V_7 e_V_7 => ?_)
      have h := h V_7 e_V_7
      refine go_aload_n (q := 0) dX6_gains_47 rfl rfl ?_
      refine go_getr fg_X6_28 dX6_gains_48 (mX (n := 1) (by decide) rfl (by omega)) ?_
      refine go_iload_n (q := 2) dX6_gains_51 rfl rfl ?_
      refine go_cVI (As := [aI x2]) (st := []) (r := 2) (i := 2) mv_X5_passHours dX6_gains_52 ml_X6_187 (hr_Kp (Nat.le_refl d)) rfl rfl (mX (n := 3) (by decide) rfl (by omega)) rfl rfl (Nat.le_of_ble_eq_true rfl) h (fun x_9 V_8 h => ?_)
      refine go_pop dX6_gains_55 rfl ?_
      refine go_ldc dX6_gains_56 ct_X6_218 ?_
      refine go_istore_n (al1 := [(3, aI (-1000000005)), (0, aR 0 0), (1, aI x1), (2, aI x2)]) dX6_gains_58 rfl (by decide) rfl ?_
      refine go_iconst (v := 0) dX6_gains_59 (by decide) ?_
      refine go_istore (al1 := [(4, aI 0), (3, aI (-1000000005)), (0, aR 0 0), (1, aI x1), (2, aI x2)]) dX6_gains_60 (by decide) rfl ?_
      refine go_iconst (v := 0) dX6_gains_62 (by decide) ?_
      refine go_istore (al1 := [(5, aI 0), (4, aI 0), (3, aI (-1000000005)), (0, aR 0 0), (1, aI x1), (2, aI x2)]) dX6_gains_63 (by decide) rfl ?_
      refine go_sub (al1 := [(0, aR 0 0), (1, aI x1), (2, aI x2), (3, aI (-1000000005)), (4, aI 0), (5, aI 0)]) [3, 4, 5, 2, 1, 0] rfl ?_
      exact hk65 x1 x2 (-1000000005) 0 0  V_8 h
    · have h := h.2 c_10
      refine go_ldc dX6_gains_20 ct_X6_83 ?_
      exact go_iret rfl dX6_gains_22 h
theorem clX6_gains {d : Nat} {P : Option AV → Mem → Prop} {I65 : Int32 → Int32 → Int32 → Int32 → Int32 → Mem → Prop}   (x1 : Int32) (x2 : Int32) (V : Mem) (hk65 : ∀ (x1 : Int32) (x2 : Int32) (x3 : Int32) (x4 : Int32) (x5 : Int32), ∀ (V : Mem), I65 x1 x2 x3 x4 x5 V → Gq (Kp (d + 1) mX6_gains UX P) UX cX6_gains 7 RX6 65 [(0, aR 0 0), (1, aI x1), (2, aI x2), (3, aI x3), (4, aI x4), (5, aI x5)] [] V) (h : wpX6_gains_0 (Cl UX d) I65  x1 x2 V P) : Cl UX (d + 1) mX6_gains [aR 0 0, aI x1, aI x2] V P :=
  cl_of [(0, aR 0 0), (1, aI x1), (2, aI x2)] (by decide) (fun _ => Nat.le_of_ble_eq_true rfl) (fun _ => rfl) (okX6_gains_0   x1 x2 V hk65 h)
theorem dX6_explained_0 : decode cX6_explained 0 = .ok (.iload_n 1, 1) := by decide +kernel
theorem dX6_explained_1 : decode cX6_explained 1 = .ok (.invokestatic 223, 3) := by decide +kernel
theorem dX6_explained_4 : decode cX6_explained 4 = .ok (.ifCond .eq 12, 3) := by decide +kernel
theorem dX6_explained_7 : decode cX6_explained 7 = .ok (.iload_n 2, 1) := by decide +kernel
theorem dX6_explained_8 : decode cX6_explained 8 = .ok (.iconst 0, 1) := by decide +kernel
theorem dX6_explained_9 : decode cX6_explained 9 = .ok (.iconst 1, 1) := by decide +kernel
theorem dX6_explained_10 : decode cX6_explained 10 = .ok (.invokestatic 79, 3) := by decide +kernel
theorem dX6_explained_13 : decode cX6_explained 13 = .ok (.ifCond .ne 6, 3) := by decide +kernel
theorem dX6_explained_16 : decode cX6_explained 16 = .ok (.ldc 83, 2) := by decide +kernel
theorem dX6_explained_18 : decode cX6_explained 18 = .ok (.ireturn, 1) := by decide +kernel
theorem dX6_explained_19 : decode cX6_explained 19 = .ok (.aload_n 0, 1) := by decide +kernel
theorem dX6_explained_20 : decode cX6_explained 20 = .ok (.getfield 54, 3) := by decide +kernel
theorem dX6_explained_23 : decode cX6_explained 23 = .ok (.iload_n 1, 1) := by decide +kernel
theorem dX6_explained_24 : decode cX6_explained 24 = .ok (.aaload, 1) := by decide +kernel
theorem dX6_explained_25 : decode cX6_explained 25 = .ok (.invokevirtual 226, 3) := by decide +kernel
theorem dX6_explained_28 : decode cX6_explained 28 = .ok (.ifCond .eq 6, 3) := by decide +kernel
theorem dX6_explained_31 : decode cX6_explained 31 = .ok (.ldc 230, 2) := by decide +kernel
theorem dX6_explained_33 : decode cX6_explained 33 = .ok (.ireturn, 1) := by decide +kernel
theorem dX6_explained_34 : decode cX6_explained 34 = .ok (.iconst 0, 1) := by decide +kernel
theorem dX6_explained_35 : decode cX6_explained 35 = .ok (.istore_n 3, 1) := by decide +kernel
theorem dX6_explained_36 : decode cX6_explained 36 = .ok (.aload_n 0, 1) := by decide +kernel
theorem dX6_explained_37 : decode cX6_explained 37 = .ok (.aload_n 0, 1) := by decide +kernel
theorem dX6_explained_38 : decode cX6_explained 38 = .ok (.getfield 54, 3) := by decide +kernel
theorem dX6_explained_41 : decode cX6_explained 41 = .ok (.iload_n 1, 1) := by decide +kernel
theorem dX6_explained_42 : decode cX6_explained 42 = .ok (.aaload, 1) := by decide +kernel
theorem dX6_explained_43 : decode cX6_explained 43 = .ok (.iconst 0, 1) := by decide +kernel
theorem dX6_explained_44 : decode cX6_explained 44 = .ok (.invokevirtual 231, 3) := by decide +kernel
theorem dX6_explained_47 : decode cX6_explained 47 = .ok (.istore 4, 2) := by decide +kernel
theorem dX6_explained_49 : decode cX6_explained 49 = .ok (.iconst 1, 1) := by decide +kernel
theorem dX6_explained_50 : decode cX6_explained 50 = .ok (.istore 5, 2) := by decide +kernel
theorem dX6_explained_52 : decode cX6_explained 52 = .ok (.iload 5, 2) := by decide +kernel
theorem dX6_explained_54 : decode cX6_explained 54 = .ok (.bipush 24, 2) := by decide +kernel
theorem dX6_explained_56 : decode cX6_explained 56 = .ok (.if_icmp .gt 37, 3) := by decide +kernel
theorem dX6_explained_59 : decode cX6_explained 59 = .ok (.aload_n 0, 1) := by decide +kernel
theorem dX6_explained_60 : decode cX6_explained 60 = .ok (.aload_n 0, 1) := by decide +kernel
theorem dX6_explained_61 : decode cX6_explained 61 = .ok (.getfield 54, 3) := by decide +kernel
theorem dX6_explained_64 : decode cX6_explained 64 = .ok (.iload_n 1, 1) := by decide +kernel
theorem dX6_explained_65 : decode cX6_explained 65 = .ok (.aaload, 1) := by decide +kernel
theorem dX6_explained_66 : decode cX6_explained 66 = .ok (.iload 5, 2) := by decide +kernel
theorem dX6_explained_68 : decode cX6_explained 68 = .ok (.invokevirtual 231, 3) := by decide +kernel
theorem dX6_explained_71 : decode cX6_explained 71 = .ok (.istore 6, 2) := by decide +kernel
theorem dX6_explained_73 : decode cX6_explained 73 = .ok (.iload 6, 2) := by decide +kernel
theorem dX6_explained_75 : decode cX6_explained 75 = .ok (.iload 4, 2) := by decide +kernel
theorem dX6_explained_77 : decode cX6_explained 77 = .ok (.if_icmp .ge 10, 3) := by decide +kernel
theorem dX6_explained_80 : decode cX6_explained 80 = .ok (.iload 6, 2) := by decide +kernel
theorem dX6_explained_82 : decode cX6_explained 82 = .ok (.istore 4, 2) := by decide +kernel
theorem dX6_explained_84 : decode cX6_explained 84 = .ok (.iload 5, 2) := by decide +kernel
theorem dX6_explained_86 : decode cX6_explained 86 = .ok (.istore_n 3, 1) := by decide +kernel
theorem dX6_explained_87 : decode cX6_explained 87 = .ok (.iinc 5 1, 3) := by decide +kernel
theorem dX6_explained_90 : decode cX6_explained 90 = .ok (.goto (-38), 3) := by decide +kernel
theorem dX6_explained_93 : decode cX6_explained 93 = .ok (.iload_n 2, 1) := by decide +kernel
theorem dX6_explained_94 : decode cX6_explained 94 = .ok (.ifCond .ne 7, 3) := by decide +kernel
theorem dX6_explained_97 : decode cX6_explained 97 = .ok (.iload_n 3, 1) := by decide +kernel
theorem dX6_explained_98 : decode cX6_explained 98 = .ok (.goto 5, 3) := by decide +kernel
theorem dX6_explained_101 : decode cX6_explained 101 = .ok (.iload 4, 2) := by decide +kernel
theorem dX6_explained_103 : decode cX6_explained 103 = .ok (.ireturn, 1) := by decide +kernel
def wpX6_explained_52 (C : CT) (I52 : Int32 → Int32 → Int32 → Int32 → Int32 → Mem → Prop)  (x1 : Int32) (x2 : Int32) (x3 : Int32) (x4 : Int32) (x5 : Int32) (V : Mem) (Q : Option AV → Mem → Prop) : Prop :=
  ((24 < x5 → ((¬ x2 = 0 → Q (some (aI x4)) V) ∧ (x2 = 0 → Q (some (aI x3)) V))) ∧ (¬ 24 < x5 → (∃ j_2 : Nat, x1 = nI j_2 ∧ j_2 < 4 ∧ (cI C mX6_misfit [aR 0 0, aR 4 j_2, aI x5] V (fun x_4 V_3 => ((x4 ≤ x_4 → I52 x1 x2 x3 x4 (x5 + 1) V_3) ∧ (¬ x4 ≤ x_4 → I52 x1 x2 x5 x_4 (x5 + 1) V_3)))))))
set_option maxRecDepth 10000 in
theorem okX6_explained_52 {d : Nat} {P : Option AV → Mem → Prop} {I52 : Int32 → Int32 → Int32 → Int32 → Int32 → Mem → Prop}   (x1 : Int32) (x2 : Int32) (x3 : Int32) (x4 : Int32) (x5 : Int32)  (V : Mem) (hk52 : ∀ (x1 : Int32) (x2 : Int32) (x3 : Int32) (x4 : Int32) (x5 : Int32), ∀ (V : Mem), I52 x1 x2 x3 x4 x5 V → Gq (Kp (d + 1) mX6_explained UX P) UX cX6_explained 7 RX6 52 [(0, aR 0 0), (1, aI x1), (2, aI x2), (3, aI x3), (4, aI x4), (5, aI x5)] [] V) (h : wpX6_explained_52 (Cl UX d) I52  x1 x2 x3 x4 x5 V P) : Gq (Kp (d + 1) mX6_explained UX P) UX cX6_explained 7 RX6 52 [(0, aR 0 0), (1, aI x1), (2, aI x2), (3, aI x3), (4, aI x4), (5, aI x5)] [] V := by
  unfold wpX6_explained_52 at h
  refine go_iload (q := 5) dX6_explained_52 rfl ?_
  refine go_bipush (v := 24) dX6_explained_54 (by decide) ?_
  refine go_icmp_gt (tgt := 93) dX6_explained_56 (by decide) (fun c_6 => ?_) (fun c_6 => ?_)
  · have h := h.1 c_6
    refine go_iload_n (q := 2) dX6_explained_93 rfl rfl ?_
    refine go_if_ne (tgt := 101) dX6_explained_94 (by decide) (fun c_1 => ?_) (fun c_1 => ?_)
    · have h := h.1 c_1
      refine go_iload (q := 4) dX6_explained_101 rfl ?_
      exact go_iret rfl dX6_explained_103 h
    · have h := h.2 c_1
      refine go_iload_n (q := 3) dX6_explained_97 rfl rfl ?_
      refine go_goto (tgt := 103) dX6_explained_98 (by decide) ?_
      exact go_iret rfl dX6_explained_103 h
  · have h := h.2 c_6
    refine go_aload_n (q := 0) dX6_explained_59 rfl rfl ?_
    refine go_aload_n (q := 0) dX6_explained_60 rfl rfl ?_
    refine go_getr fg_X6_54 dX6_explained_61 (mX (n := 1) (by decide) rfl (by omega)) ?_
    refine go_iload_n (q := 1) dX6_explained_64 rfl rfl ?_
    obtain ⟨j_2, e_j_2, l_j_2, h⟩ := h
    refine go_aald (r := 19) (n := 4) (j := j_2) rfl rfl (by decide) dX6_explained_65 (mX (n := 1) (by decide) rfl (by omega)) e_j_2 l_j_2 ?_
    refine go_iload (q := 5) dX6_explained_66 rfl ?_
    refine go_cVI (As := [aR 4 j_2, aI x5]) (st := []) (r := 0) (i := 0) mv_X6_misfit dX6_explained_68 ml_X6_231 (hr_Kp (Nat.le_refl d)) rfl rfl (mX (n := 1) (by decide) rfl (by omega)) rfl rfl (Nat.le_of_ble_eq_true rfl) h (fun x_4 V_3 h => ?_)
    refine go_istore (al1 := [(6, aI x_4), (0, aR 0 0), (1, aI x1), (2, aI x2), (3, aI x3), (4, aI x4), (5, aI x5)]) dX6_explained_71 (by decide) rfl ?_
    refine go_iload (q := 0) dX6_explained_73 rfl ?_
    refine go_iload (q := 5) dX6_explained_75 rfl ?_
    refine go_icmp_ge (tgt := 87) dX6_explained_77 (by decide) (fun c_5 => ?_) (fun c_5 => ?_)
    · have h := h.1 c_5
      refine go_iinc (q := 6) (y := 1) (al1 := [(5, aI (x5 + 1)), (6, aI x_4), (0, aR 0 0), (1, aI x1), (2, aI x2), (3, aI x3), (4, aI x4)]) dX6_explained_87 rfl (by decide) (by decide) rfl ?_
      refine go_goto (tgt := 52) dX6_explained_90 (by decide) ?_
      refine go_sub (al1 := [(0, aR 0 0), (1, aI x1), (2, aI x2), (3, aI x3), (4, aI x4), (5, aI (x5 + 1))]) [2, 3, 4, 5, 6, 0] rfl ?_
      exact hk52 x1 x2 x3 x4 (x5 + 1)  V_3 h
    · have h := h.2 c_5
      refine go_iload (q := 0) dX6_explained_80 rfl ?_
      refine go_istore (al1 := [(4, aI x_4), (6, aI x_4), (0, aR 0 0), (1, aI x1), (2, aI x2), (3, aI x3), (5, aI x5)]) dX6_explained_82 (by decide) rfl ?_
      refine go_iload (q := 6) dX6_explained_84 rfl ?_
      refine go_istore_n (al1 := [(3, aI x5), (4, aI x_4), (6, aI x_4), (0, aR 0 0), (1, aI x1), (2, aI x2), (5, aI x5)]) dX6_explained_86 rfl (by decide) rfl ?_
      refine go_iinc (q := 6) (y := 1) (al1 := [(5, aI (x5 + 1)), (3, aI x5), (4, aI x_4), (6, aI x_4), (0, aR 0 0), (1, aI x1), (2, aI x2)]) dX6_explained_87 rfl (by decide) (by decide) rfl ?_
      refine go_goto (tgt := 52) dX6_explained_90 (by decide) ?_
      refine go_sub (al1 := [(0, aR 0 0), (1, aI x1), (2, aI x2), (3, aI x5), (4, aI x_4), (5, aI (x5 + 1))]) [4, 5, 6, 1, 2, 0] rfl ?_
      exact hk52 x1 x2 x5 x_4 (x5 + 1)  V_3 h
def wpX6_explained_0 (C : CT) (I52 : Int32 → Int32 → Int32 → Int32 → Int32 → Mem → Prop)  (x1 : Int32) (x2 : Int32) (V : Mem) (Q : Option AV → Mem → Prop) : Prop :=
  (cI C mX6_isSheet [aI x1] V (fun x_2 V_1 => ((x_2 = 0 → Q (some (aI (-1000000001))) V_1) ∧ (¬ x_2 = 0 → (cI C mX6_isWithin [aI x2, aI 0, aI 1] V_1 (fun x_4 V_3 => ((¬ x_4 = 0 → (∃ j_5 : Nat, x1 = nI j_5 ∧ j_5 < 4 ∧ (cI C mX3_isMissing [aR 4 j_5] V_3 (fun x_7 V_6 => ((x_7 = 0 → (cI C mX6_misfit [aR 0 0, aR 4 j_5, aI 0] V_6 (fun x_9 V_8 => I52 x1 x2 0 x_9 1 V_8))) ∧ (¬ x_7 = 0 → Q (some (aI (-1000000011))) V_6)))))) ∧ (x_4 = 0 → Q (some (aI (-1000000001))) V_3))))))))
set_option maxRecDepth 10000 in
theorem okX6_explained_0 {d : Nat} {P : Option AV → Mem → Prop} {I52 : Int32 → Int32 → Int32 → Int32 → Int32 → Mem → Prop}   (x1 : Int32) (x2 : Int32)  (V : Mem) (hk52 : ∀ (x1 : Int32) (x2 : Int32) (x3 : Int32) (x4 : Int32) (x5 : Int32), ∀ (V : Mem), I52 x1 x2 x3 x4 x5 V → Gq (Kp (d + 1) mX6_explained UX P) UX cX6_explained 7 RX6 52 [(0, aR 0 0), (1, aI x1), (2, aI x2), (3, aI x3), (4, aI x4), (5, aI x5)] [] V) (h : wpX6_explained_0 (Cl UX d) I52  x1 x2 V P) : Gq (Kp (d + 1) mX6_explained UX P) UX cX6_explained 7 RX6 0 [(0, aR 0 0), (1, aI x1), (2, aI x2)] [] V := by
  unfold wpX6_explained_0 at h
  refine go_iload_n (q := 1) dX6_explained_0 rfl rfl ?_
  refine go_cSI (As := [aI x1]) (st := []) ms_X6_isSheet dX6_explained_1 ml_X6_223 (hr_Kp (Nat.le_refl d)) rfl rfl (Nat.le_of_ble_eq_true rfl) h (fun x_2 V_1 h => ?_)
  refine go_if_eq (tgt := 16) dX6_explained_4 (by decide) (fun c_12 => ?_) (fun c_12 => ?_)
  · have h := h.1 c_12
    refine go_ldc dX6_explained_16 ct_X6_83 ?_
    exact go_iret rfl dX6_explained_18 h
  · have h := h.2 c_12
    refine go_iload_n (q := 2) dX6_explained_7 rfl rfl ?_
    refine go_iconst (v := 0) dX6_explained_8 (by decide) ?_
    refine go_iconst (v := 1) dX6_explained_9 (by decide) ?_
    refine go_cSI (As := [aI x2, aI 0, aI 1]) (st := []) ms_X6_isWithin dX6_explained_10 ml_X6_79 (hr_Kp (Nat.le_refl d)) rfl rfl (Nat.le_of_ble_eq_true rfl) h (fun x_4 V_3 h => ?_)
    refine go_if_ne (tgt := 19) dX6_explained_13 (by decide) (fun c_11 => ?_) (fun c_11 => ?_)
    · have h := h.1 c_11
      refine go_aload_n (q := 0) dX6_explained_19 rfl rfl ?_
      refine go_getr fg_X6_54 dX6_explained_20 (mX (n := 1) (by decide) rfl (by omega)) ?_
      refine go_iload_n (q := 1) dX6_explained_23 rfl rfl ?_
      obtain ⟨j_5, e_j_5, l_j_5, h⟩ := h
      refine go_aald (r := 19) (n := 4) (j := j_5) rfl rfl (by decide) dX6_explained_24 (mX (n := 1) (by decide) rfl (by omega)) e_j_5 l_j_5 ?_
      refine go_cVI (As := []) (st := []) (r := 4) (i := j_5) mv_X3_isMissing dX6_explained_25 ml_X6_226 (hr_Kp (Nat.le_refl d)) rfl rfl (mX (n := 9) (by decide) rfl (by omega)) rfl rfl (Nat.le_of_ble_eq_true rfl) h (fun x_7 V_6 h => ?_)
      refine go_if_eq (tgt := 34) dX6_explained_28 (by decide) (fun c_10 => ?_) (fun c_10 => ?_)
      · have h := h.1 c_10
        refine go_iconst (v := 0) dX6_explained_34 (by decide) ?_
        refine go_istore_n (al1 := [(3, aI 0), (0, aR 0 0), (1, aI x1), (2, aI x2)]) dX6_explained_35 rfl (by decide) rfl ?_
        refine go_aload_n (q := 1) dX6_explained_36 rfl rfl ?_
        refine go_aload_n (q := 1) dX6_explained_37 rfl rfl ?_
        refine go_getr fg_X6_54 dX6_explained_38 (mX (n := 1) (by decide) rfl (by omega)) ?_
        refine go_iload_n (q := 2) dX6_explained_41 rfl rfl ?_
        refine go_aald (r := 19) (n := 4) (j := j_5) rfl rfl (by decide) dX6_explained_42 (mX (n := 1) (by decide) rfl (by omega)) e_j_5 (by omega) ?_
        refine go_iconst (v := 0) dX6_explained_43 (by decide) ?_
        refine go_cVI (As := [aR 4 j_5, aI 0]) (st := []) (r := 0) (i := 0) mv_X6_misfit dX6_explained_44 ml_X6_231 (hr_Kp (Nat.le_refl d)) rfl rfl (mX (n := 1) (by decide) rfl (by omega)) rfl rfl (Nat.le_of_ble_eq_true rfl) h (fun x_9 V_8 h => ?_)
        refine go_istore (al1 := [(4, aI x_9), (3, aI 0), (0, aR 0 0), (1, aI x1), (2, aI x2)]) dX6_explained_47 (by decide) rfl ?_
        refine go_iconst (v := 1) dX6_explained_49 (by decide) ?_
        refine go_istore (al1 := [(5, aI 1), (4, aI x_9), (3, aI 0), (0, aR 0 0), (1, aI x1), (2, aI x2)]) dX6_explained_50 (by decide) rfl ?_
        refine go_sub (al1 := [(0, aR 0 0), (1, aI x1), (2, aI x2), (3, aI 0), (4, aI x_9), (5, aI 1)]) [3, 4, 5, 2, 1, 0] rfl ?_
        exact hk52 x1 x2 0 x_9 1  V_8 h
      · have h := h.2 c_10
        refine go_ldc dX6_explained_31 ct_X6_230 ?_
        exact go_iret rfl dX6_explained_33 h
    · have h := h.2 c_11
      refine go_ldc dX6_explained_16 ct_X6_83 ?_
      exact go_iret rfl dX6_explained_18 h
theorem clX6_explained {d : Nat} {P : Option AV → Mem → Prop} {I52 : Int32 → Int32 → Int32 → Int32 → Int32 → Mem → Prop}   (x1 : Int32) (x2 : Int32) (V : Mem) (hk52 : ∀ (x1 : Int32) (x2 : Int32) (x3 : Int32) (x4 : Int32) (x5 : Int32), ∀ (V : Mem), I52 x1 x2 x3 x4 x5 V → Gq (Kp (d + 1) mX6_explained UX P) UX cX6_explained 7 RX6 52 [(0, aR 0 0), (1, aI x1), (2, aI x2), (3, aI x3), (4, aI x4), (5, aI x5)] [] V) (h : wpX6_explained_0 (Cl UX d) I52  x1 x2 V P) : Cl UX (d + 1) mX6_explained [aR 0 0, aI x1, aI x2] V P :=
  cl_of [(0, aR 0 0), (1, aI x1), (2, aI x2)] (by decide) (fun _ => Nat.le_of_ble_eq_true rfl) (fun _ => rfl) (okX6_explained_0   x1 x2 V hk52 h)
theorem dX6_fine_0 : decode cX6_fine 0 = .ok (.aload_n 0, 1) := by decide +kernel
theorem dX6_fine_1 : decode cX6_fine 1 = .ok (.iload_n 1, 1) := by decide +kernel
theorem dX6_fine_2 : decode cX6_fine 2 = .ok (.invokevirtual 92, 3) := by decide +kernel
theorem dX6_fine_5 : decode cX6_fine 5 = .ok (.ifCond .eq 22, 3) := by decide +kernel
theorem dX6_fine_8 : decode cX6_fine 8 = .ok (.aload_n 0, 1) := by decide +kernel
theorem dX6_fine_9 : decode cX6_fine 9 = .ok (.getfield 21, 3) := by decide +kernel
theorem dX6_fine_12 : decode cX6_fine 12 = .ok (.aload_n 0, 1) := by decide +kernel
theorem dX6_fine_13 : decode cX6_fine 13 = .ok (.getfield 21, 3) := by decide +kernel
theorem dX6_fine_16 : decode cX6_fine 16 = .ok (.getfield 95, 3) := by decide +kernel
theorem dX6_fine_19 : decode cX6_fine 19 = .ok (.iload_n 1, 1) := by decide +kernel
theorem dX6_fine_20 : decode cX6_fine 20 = .ok (.aaload, 1) := by decide +kernel
theorem dX6_fine_21 : decode cX6_fine 21 = .ok (.invokevirtual 235, 3) := by decide +kernel
theorem dX6_fine_24 : decode cX6_fine 24 = .ok (.goto 5, 3) := by decide +kernel
theorem dX6_fine_27 : decode cX6_fine 27 = .ok (.ldc 83, 2) := by decide +kernel
theorem dX6_fine_29 : decode cX6_fine 29 = .ok (.ireturn, 1) := by decide +kernel
def wpX6_fine_0 (C : CT)   (x1 : Int32) (V : Mem) (Q : Option AV → Mem → Prop) : Prop :=
  (cI C mX6_isRoof [aR 0 0, aI x1] V (fun x_2 V_1 => ((x_2 = 0 → Q (some (aI (-1000000001))) V_1) ∧ (¬ x_2 = 0 → (∃ j_3 : Nat, x1 = nI j_3 ∧ j_3 < 8 ∧ (cI C mX5_fineFor [aR 2 0, aR 3 (8 * 0 + j_3)] V_1 (fun x_5 V_4 => Q (some (aI x_5)) V_4)))))))
set_option maxRecDepth 10000 in
theorem okX6_fine_0 {d : Nat} {P : Option AV → Mem → Prop}    (x1 : Int32)  (V : Mem)  (h : wpX6_fine_0 (Cl UX d)   x1 V P) : Gq (Kp (d + 1) mX6_fine UX P) UX cX6_fine 2 RX6 0 [(0, aR 0 0), (1, aI x1)] [] V := by
  unfold wpX6_fine_0 at h
  refine go_aload_n (q := 0) dX6_fine_0 rfl rfl ?_
  refine go_iload_n (q := 1) dX6_fine_1 rfl rfl ?_
  refine go_cVI (As := [aI x1]) (st := []) (r := 0) (i := 0) mv_X6_isRoof dX6_fine_2 ml_X6_92 (hr_Kp (Nat.le_refl d)) rfl rfl (mX (n := 1) (by decide) rfl (by omega)) rfl rfl (Nat.le_of_ble_eq_true rfl) h (fun x_2 V_1 h => ?_)
  refine go_if_eq (tgt := 27) dX6_fine_5 (by decide) (fun c_6 => ?_) (fun c_6 => ?_)
  · have h := h.1 c_6
    refine go_ldc dX6_fine_27 ct_X6_83 ?_
    exact go_iret rfl dX6_fine_29 h
  · have h := h.2 c_6
    refine go_aload_n (q := 0) dX6_fine_8 rfl rfl ?_
    refine go_getr fg_X6_21 dX6_fine_9 (mX (n := 1) (by decide) rfl (by omega)) ?_
    refine go_aload_n (q := 0) dX6_fine_12 rfl rfl ?_
    refine go_getr fg_X6_21 dX6_fine_13 (mX (n := 1) (by decide) rfl (by omega)) ?_
    refine go_getr fg_X6_95 dX6_fine_16 (mX (n := 3) (by decide) rfl (by omega)) ?_
    refine go_iload_n (q := 1) dX6_fine_19 rfl rfl ?_
    obtain ⟨j_3, e_j_3, l_j_3, h⟩ := h
    refine go_aald (r := 13) (n := 8) (j := j_3) rfl rfl (by decide) dX6_fine_20 (mX (n := 3) (by decide) rfl (by omega)) e_j_3 l_j_3 ?_
    refine go_cVI (As := [aR 3 (8 * 0 + j_3)]) (st := []) (r := 2) (i := 0) mv_X5_fineFor dX6_fine_21 ml_X6_235 (hr_Kp (Nat.le_refl d)) rfl rfl (mX (n := 3) (by decide) rfl (by omega)) rfl rfl (Nat.le_of_ble_eq_true rfl) h (fun x_5 V_4 h => ?_)
    refine go_goto (tgt := 29) dX6_fine_24 (by decide) ?_
    exact go_iret rfl dX6_fine_29 h
theorem clX6_fine {d : Nat} {P : Option AV → Mem → Prop}    (x1 : Int32) (V : Mem)  (h : wpX6_fine_0 (Cl UX d)   x1 V P) : Cl UX (d + 1) mX6_fine [aR 0 0, aI x1] V P :=
  cl_of [(0, aR 0 0), (1, aI x1)] (by decide) (fun _ => Nat.le_of_ble_eq_true rfl) (fun _ => rfl) (okX6_fine_0   x1 V  h)
theorem dX6_feed_0 : decode cX6_feed 0 = .ok (.aload_n 0, 1) := by decide +kernel
theorem dX6_feed_1 : decode cX6_feed 1 = .ok (.getfield 39, 3) := by decide +kernel
theorem dX6_feed_4 : decode cX6_feed 4 = .ok (.bipush 84, 2) := by decide +kernel
theorem dX6_feed_6 : decode cX6_feed 6 = .ok (.if_icmp .le 6, 3) := by decide +kernel
theorem dX6_feed_9 : decode cX6_feed 9 = .ok (.ldc 87, 2) := by decide +kernel
theorem dX6_feed_11 : decode cX6_feed 11 = .ok (.ireturn, 1) := by decide +kernel
theorem dX6_feed_12 : decode cX6_feed 12 = .ok (.aload_n 0, 1) := by decide +kernel
theorem dX6_feed_13 : decode cX6_feed 13 = .ok (.iload_n 1, 1) := by decide +kernel
theorem dX6_feed_14 : decode cX6_feed 14 = .ok (.aload_n 0, 1) := by decide +kernel
theorem dX6_feed_15 : decode cX6_feed 15 = .ok (.getfield 39, 3) := by decide +kernel
theorem dX6_feed_18 : decode cX6_feed 18 = .ok (.invokevirtual 238, 3) := by decide +kernel
theorem dX6_feed_21 : decode cX6_feed 21 = .ok (.aload_n 0, 1) := by decide +kernel
theorem dX6_feed_22 : decode cX6_feed 22 = .ok (.iload_n 2, 1) := by decide +kernel
theorem dX6_feed_23 : decode cX6_feed 23 = .ok (.aload_n 0, 1) := by decide +kernel
theorem dX6_feed_24 : decode cX6_feed 24 = .ok (.getfield 39, 3) := by decide +kernel
theorem dX6_feed_27 : decode cX6_feed 27 = .ok (.iconst 4, 1) := by decide +kernel
theorem dX6_feed_28 : decode cX6_feed 28 = .ok (.iadd, 1) := by decide +kernel
theorem dX6_feed_29 : decode cX6_feed 29 = .ok (.invokevirtual 238, 3) := by decide +kernel
theorem dX6_feed_32 : decode cX6_feed 32 = .ok (.aload_n 0, 1) := by decide +kernel
theorem dX6_feed_33 : decode cX6_feed 33 = .ok (.iload_n 3, 1) := by decide +kernel
theorem dX6_feed_34 : decode cX6_feed 34 = .ok (.aload_n 0, 1) := by decide +kernel
theorem dX6_feed_35 : decode cX6_feed 35 = .ok (.getfield 39, 3) := by decide +kernel
theorem dX6_feed_38 : decode cX6_feed 38 = .ok (.bipush 8, 2) := by decide +kernel
theorem dX6_feed_40 : decode cX6_feed 40 = .ok (.iadd, 1) := by decide +kernel
theorem dX6_feed_41 : decode cX6_feed 41 = .ok (.invokevirtual 238, 3) := by decide +kernel
theorem dX6_feed_44 : decode cX6_feed 44 = .ok (.aload_n 0, 1) := by decide +kernel
theorem dX6_feed_45 : decode cX6_feed 45 = .ok (.dup, 1) := by decide +kernel
theorem dX6_feed_46 : decode cX6_feed 46 = .ok (.getfield 39, 3) := by decide +kernel
theorem dX6_feed_49 : decode cX6_feed 49 = .ok (.bipush 12, 2) := by decide +kernel
theorem dX6_feed_51 : decode cX6_feed 51 = .ok (.iadd, 1) := by decide +kernel
theorem dX6_feed_52 : decode cX6_feed 52 = .ok (.putfield 39, 3) := by decide +kernel
theorem dX6_feed_55 : decode cX6_feed 55 = .ok (.aload_n 0, 1) := by decide +kernel
theorem dX6_feed_56 : decode cX6_feed 56 = .ok (.getfield 39, 3) := by decide +kernel
theorem dX6_feed_59 : decode cX6_feed 59 = .ok (.ireturn, 1) := by decide +kernel
def wpX6_feed_0 (C : CT)   (x1 : Int32) (x2 : Int32) (x3 : Int32) (V : Mem) (Q : Option AV → Mem → Prop) : Prop :=
  (((V 0 0 6) ≤ 84 → (cV C mX6_putBytes [aR 0 0, aI x1, aI (V 0 0 6)] V (fun V_1 => (cV C mX6_putBytes [aR 0 0, aI x2, aI ((V_1 0 0 6) + 4)] V_1 (fun V_2 => (cV C mX6_putBytes [aR 0 0, aI x3, aI ((V_2 0 0 6) + 8)] V_2 (fun V_3 => (∀ V_4 : Mem, V_4 = mu V_3 0 0 6 ((V_3 0 0 6) + 12) → Q (some (aI (V_4 0 0 6))) V_4)))))))) ∧ (¬ (V 0 0 6) ≤ 84 → Q (some (aI (-1000000003))) V))
set_option maxRecDepth 10000 in
theorem okX6_feed_0 {d : Nat} {P : Option AV → Mem → Prop}    (x1 : Int32) (x2 : Int32) (x3 : Int32)  (V : Mem)  (h : wpX6_feed_0 (Cl UX d)   x1 x2 x3 V P) : Gq (Kp (d + 1) mX6_feed UX P) UX cX6_feed 4 RX6 0 [(0, aR 0 0), (1, aI x1), (2, aI x2), (3, aI x3)] [] V := by
  unfold wpX6_feed_0 at h
  refine go_aload_n (q := 0) dX6_feed_0 rfl rfl ?_
  refine go_geti fg_X6_39 dX6_feed_1 (mX (n := 1) (by decide) rfl (by omega)) ?_
  refine go_bipush (v := 84) dX6_feed_4 (by decide) ?_
  refine go_icmp_le (tgt := 12) dX6_feed_6 (by decide) (fun c_5 => ?_) (fun c_5 => ?_)
  · have h := h.1 c_5
    refine go_aload_n (q := 0) dX6_feed_12 rfl rfl ?_
    refine go_iload_n (q := 1) dX6_feed_13 rfl rfl ?_
    refine go_aload_n (q := 0) dX6_feed_14 rfl rfl ?_
    refine go_geti fg_X6_39 dX6_feed_15 (mX (n := 1) (by decide) rfl (by omega)) ?_
    refine go_cVV (As := [aI x1, aI (V 0 0 6)]) (st := []) (r := 0) (i := 0) mv_X6_putBytes dX6_feed_18 ml_X6_238 (hr_Kp (Nat.le_refl d)) rfl rfl (mX (n := 1) (by decide) rfl (by omega)) rfl rfl (Nat.le_of_ble_eq_true rfl) h (fun V_1 h => ?_)
    refine go_aload_n (q := 0) dX6_feed_21 rfl rfl ?_
    refine go_iload_n (q := 2) dX6_feed_22 rfl rfl ?_
    refine go_aload_n (q := 0) dX6_feed_23 rfl rfl ?_
    refine go_geti fg_X6_39 dX6_feed_24 (mX (n := 1) (by decide) rfl (by omega)) ?_
    refine go_iconst (v := 4) dX6_feed_27 (by decide) ?_
    refine go_iadd dX6_feed_28 ?_
    refine go_cVV (As := [aI x2, aI ((V_1 0 0 6) + 4)]) (st := []) (r := 0) (i := 0) mv_X6_putBytes dX6_feed_29 ml_X6_238 (hr_Kp (Nat.le_refl d)) rfl rfl (mX (n := 1) (by decide) rfl (by omega)) rfl rfl (Nat.le_of_ble_eq_true rfl) h (fun V_2 h => ?_)
    refine go_aload_n (q := 0) dX6_feed_32 rfl rfl ?_
    refine go_iload_n (q := 3) dX6_feed_33 rfl rfl ?_
    refine go_aload_n (q := 0) dX6_feed_34 rfl rfl ?_
    refine go_geti fg_X6_39 dX6_feed_35 (mX (n := 1) (by decide) rfl (by omega)) ?_
    refine go_bipush (v := 8) dX6_feed_38 (by decide) ?_
    refine go_iadd dX6_feed_40 ?_
    refine go_cVV (As := [aI x3, aI ((V_2 0 0 6) + 8)]) (st := []) (r := 0) (i := 0) mv_X6_putBytes dX6_feed_41 ml_X6_238 (hr_Kp (Nat.le_refl d)) rfl rfl (mX (n := 1) (by decide) rfl (by omega)) rfl rfl (Nat.le_of_ble_eq_true rfl) h (fun V_3 h => ?_)
    refine go_aload_n (q := 0) dX6_feed_44 rfl rfl ?_
    refine go_dup dX6_feed_45 rfl ?_
    refine go_geti fg_X6_39 dX6_feed_46 (mX (n := 1) (by decide) rfl (by omega)) ?_
    refine go_bipush (v := 12) dX6_feed_49 (by decide) ?_
    refine go_iadd dX6_feed_51 ?_
    refine go_puti fp_X6_39 dX6_feed_52 (mX (n := 1) (by decide) rfl (by omega)) ?_
    refine nmV (fun V_4 e_V_4 => ?_)
    have h := h V_4 e_V_4
    refine go_aload_n (q := 0) dX6_feed_55 rfl rfl ?_
    refine go_geti fg_X6_39 dX6_feed_56 (mX (n := 1) (by decide) rfl (by omega)) ?_
    exact go_iret rfl dX6_feed_59 h
  · have h := h.2 c_5
    refine go_ldc dX6_feed_9 ct_X6_87 ?_
    exact go_iret rfl dX6_feed_11 h
theorem clX6_feed {d : Nat} {P : Option AV → Mem → Prop}    (x1 : Int32) (x2 : Int32) (x3 : Int32) (V : Mem)  (h : wpX6_feed_0 (Cl UX d)   x1 x2 x3 V P) : Cl UX (d + 1) mX6_feed [aR 0 0, aI x1, aI x2, aI x3] V P :=
  cl_of [(0, aR 0 0), (1, aI x1), (2, aI x2), (3, aI x3)] (by decide) (fun _ => Nat.le_of_ble_eq_true rfl) (fun _ => rfl) (okX6_feed_0   x1 x2 x3 V  h)
theorem dX6_trim_0 : decode cX6_trim 0 = .ok (.iload_n 1, 1) := by decide +kernel
theorem dX6_trim_1 : decode cX6_trim 1 = .ok (.iconst 0, 1) := by decide +kernel
theorem dX6_trim_2 : decode cX6_trim 2 = .ok (.aload_n 0, 1) := by decide +kernel
theorem dX6_trim_3 : decode cX6_trim 3 = .ok (.getfield 39, 3) := by decide +kernel
theorem dX6_trim_6 : decode cX6_trim 6 = .ok (.invokestatic 79, 3) := by decide +kernel
theorem dX6_trim_9 : decode cX6_trim 9 = .ok (.ifCond .ne 6, 3) := by decide +kernel
theorem dX6_trim_12 : decode cX6_trim 12 = .ok (.ldc 83, 2) := by decide +kernel
theorem dX6_trim_14 : decode cX6_trim 14 = .ok (.ireturn, 1) := by decide +kernel
theorem dX6_trim_15 : decode cX6_trim 15 = .ok (.aload_n 0, 1) := by decide +kernel
theorem dX6_trim_16 : decode cX6_trim 16 = .ok (.iload_n 1, 1) := by decide +kernel
theorem dX6_trim_17 : decode cX6_trim 17 = .ok (.putfield 39, 3) := by decide +kernel
theorem dX6_trim_20 : decode cX6_trim 20 = .ok (.iload_n 1, 1) := by decide +kernel
theorem dX6_trim_21 : decode cX6_trim 21 = .ok (.ireturn, 1) := by decide +kernel
def wpX6_trim_0 (C : CT)   (x1 : Int32) (V : Mem) (Q : Option AV → Mem → Prop) : Prop :=
  (cI C mX6_isWithin [aI x1, aI 0, aI (V 0 0 6)] V (fun x_2 V_1 => ((¬ x_2 = 0 → (∀ V_3 : Mem, V_3 = mu V_1 0 0 6 x1 → Q (some (aI x1)) V_3)) ∧ (x_2 = 0 → Q (some (aI (-1000000001))) V_1))))
set_option maxRecDepth 10000 in
theorem okX6_trim_0 {d : Nat} {P : Option AV → Mem → Prop}    (x1 : Int32)  (V : Mem)  (h : wpX6_trim_0 (Cl UX d)   x1 V P) : Gq (Kp (d + 1) mX6_trim UX P) UX cX6_trim 2 RX6 0 [(0, aR 0 0), (1, aI x1)] [] V := by
  unfold wpX6_trim_0 at h
  refine go_iload_n (q := 1) dX6_trim_0 rfl rfl ?_
  refine go_iconst (v := 0) dX6_trim_1 (by decide) ?_
  refine go_aload_n (q := 0) dX6_trim_2 rfl rfl ?_
  refine go_geti fg_X6_39 dX6_trim_3 (mX (n := 1) (by decide) rfl (by omega)) ?_
  refine go_cSI (As := [aI x1, aI 0, aI (V 0 0 6)]) (st := []) ms_X6_isWithin dX6_trim_6 ml_X6_79 (hr_Kp (Nat.le_refl d)) rfl rfl (Nat.le_of_ble_eq_true rfl) h (fun x_2 V_1 h => ?_)
  refine go_if_ne (tgt := 15) dX6_trim_9 (by decide) (fun c_4 => ?_) (fun c_4 => ?_)
  · have h := h.1 c_4
    refine go_aload_n (q := 0) dX6_trim_15 rfl rfl ?_
    refine go_iload_n (q := 1) dX6_trim_16 rfl rfl ?_
    refine go_puti fp_X6_39 dX6_trim_17 (mX (n := 1) (by decide) rfl (by omega)) ?_
    refine nmV (fun V_3 e_V_3 => ?_)
    have h := h V_3 e_V_3
    refine go_iload_n (q := 1) dX6_trim_20 rfl rfl ?_
    exact go_iret rfl dX6_trim_21 h
  · have h := h.2 c_4
    refine go_ldc dX6_trim_12 ct_X6_83 ?_
    exact go_iret rfl dX6_trim_14 h
theorem clX6_trim {d : Nat} {P : Option AV → Mem → Prop}    (x1 : Int32) (V : Mem)  (h : wpX6_trim_0 (Cl UX d)   x1 V P) : Cl UX (d + 1) mX6_trim [aR 0 0, aI x1] V P :=
  cl_of [(0, aR 0 0), (1, aI x1)] (by decide) (fun _ => Nat.le_of_ble_eq_true rfl) (fun _ => rfl) (okX6_trim_0   x1 V  h)
theorem dX6_text_0 : decode cX6_text 0 = .ok (.aload_n 0, 1) := by decide +kernel
theorem dX6_text_1 : decode cX6_text 1 = .ok (.getfield 48, 3) := by decide +kernel
theorem dX6_text_4 : decode cX6_text 4 = .ok (.aload_n 0, 1) := by decide +kernel
theorem dX6_text_5 : decode cX6_text 5 = .ok (.getfield 39, 3) := by decide +kernel
theorem dX6_text_8 : decode cX6_text 8 = .ok (.invokevirtual 242, 3) := by decide +kernel
theorem dX6_text_11 : decode cX6_text 11 = .ok (.istore_n 1, 1) := by decide +kernel
theorem dX6_text_12 : decode cX6_text 12 = .ok (.aload_n 0, 1) := by decide +kernel
theorem dX6_text_13 : decode cX6_text 13 = .ok (.iconst 0, 1) := by decide +kernel
theorem dX6_text_14 : decode cX6_text 14 = .ok (.putfield 39, 3) := by decide +kernel
theorem dX6_text_17 : decode cX6_text 17 = .ok (.iload_n 1, 1) := by decide +kernel
theorem dX6_text_18 : decode cX6_text 18 = .ok (.ifCond .ne 14, 3) := by decide +kernel
theorem dX6_text_21 : decode cX6_text 21 = .ok (.bipush (-100), 2) := by decide +kernel
theorem dX6_text_23 : decode cX6_text 23 = .ok (.aload_n 0, 1) := by decide +kernel
theorem dX6_text_24 : decode cX6_text 24 = .ok (.getfield 48, 3) := by decide +kernel
theorem dX6_text_27 : decode cX6_text 27 = .ok (.getfield 245, 3) := by decide +kernel
theorem dX6_text_30 : decode cX6_text 30 = .ok (.isub, 1) := by decide +kernel
theorem dX6_text_31 : decode cX6_text 31 = .ok (.ireturn, 1) := by decide +kernel
theorem dX6_text_32 : decode cX6_text 32 = .ok (.aload_n 0, 1) := by decide +kernel
theorem dX6_text_33 : decode cX6_text 33 = .ok (.getfield 21, 3) := by decide +kernel
theorem dX6_text_36 : decode cX6_text 36 = .ok (.getfield 248, 3) := by decide +kernel
theorem dX6_text_39 : decode cX6_text 39 = .ok (.bipush 14, 2) := by decide +kernel
theorem dX6_text_41 : decode cX6_text 41 = .ok (.if_icmp .lt 6, 3) := by decide +kernel
theorem dX6_text_44 : decode cX6_text 44 = .ok (.ldc 87, 2) := by decide +kernel
theorem dX6_text_46 : decode cX6_text 46 = .ok (.ireturn, 1) := by decide +kernel
theorem dX6_text_47 : decode cX6_text 47 = .ok (.aload_n 0, 1) := by decide +kernel
theorem dX6_text_48 : decode cX6_text 48 = .ok (.getfield 21, 3) := by decide +kernel
theorem dX6_text_51 : decode cX6_text 51 = .ok (.getfield 248, 3) := by decide +kernel
theorem dX6_text_54 : decode cX6_text 54 = .ok (.istore_n 2, 1) := by decide +kernel
theorem dX6_text_55 : decode cX6_text 55 = .ok (.aload_n 0, 1) := by decide +kernel
theorem dX6_text_56 : decode cX6_text 56 = .ok (.getfield 10, 3) := by decide +kernel
theorem dX6_text_59 : decode cX6_text 59 = .ok (.iload_n 2, 1) := by decide +kernel
theorem dX6_text_60 : decode cX6_text 60 = .ok (.aload_n 0, 1) := by decide +kernel
theorem dX6_text_61 : decode cX6_text 61 = .ok (.getfield 48, 3) := by decide +kernel
theorem dX6_text_64 : decode cX6_text 64 = .ok (.invokevirtual 251, 3) := by decide +kernel
theorem dX6_text_67 : decode cX6_text 67 = .ok (.aload_n 0, 1) := by decide +kernel
theorem dX6_text_68 : decode cX6_text 68 = .ok (.getfield 21, 3) := by decide +kernel
theorem dX6_text_71 : decode cX6_text 71 = .ok (.dup, 1) := by decide +kernel
theorem dX6_text_72 : decode cX6_text 72 = .ok (.getfield 248, 3) := by decide +kernel
theorem dX6_text_75 : decode cX6_text 75 = .ok (.iconst 1, 1) := by decide +kernel
theorem dX6_text_76 : decode cX6_text 76 = .ok (.iadd, 1) := by decide +kernel
theorem dX6_text_77 : decode cX6_text 77 = .ok (.putfield 248, 3) := by decide +kernel
theorem dX6_text_80 : decode cX6_text 80 = .ok (.aload_n 0, 1) := by decide +kernel
theorem dX6_text_81 : decode cX6_text 81 = .ok (.getfield 21, 3) := by decide +kernel
theorem dX6_text_84 : decode cX6_text 84 = .ok (.getfield 255, 3) := by decide +kernel
theorem dX6_text_87 : decode cX6_text 87 = .ok (.aload_n 0, 1) := by decide +kernel
theorem dX6_text_88 : decode cX6_text 88 = .ok (.getfield 48, 3) := by decide +kernel
theorem dX6_text_91 : decode cX6_text 91 = .ok (.getfield 258, 3) := by decide +kernel
theorem dX6_text_94 : decode cX6_text 94 = .ok (.iload_n 2, 1) := by decide +kernel
theorem dX6_text_95 : decode cX6_text 95 = .ok (.iastore, 1) := by decide +kernel
theorem dX6_text_96 : decode cX6_text 96 = .ok (.iload_n 2, 1) := by decide +kernel
theorem dX6_text_97 : decode cX6_text 97 = .ok (.ireturn, 1) := by decide +kernel
def wpX6_text_0 (C : CT)    (V : Mem) (Q : Option AV → Mem → Prop) : Prop :=
  (cI C mX1_readText [aR 6 0, aI (V 0 0 6)] V (fun x_2 V_1 => (∀ V_3 : Mem, V_3 = mu V_1 0 0 6 0 → ((¬ x_2 = 0 → (((V_3 2 0 5) < 14 → (∀ z_4 : Int32, z_4 = (V_3 2 0 5) → (cV C mX0_put [aR 1 0, aI z_4, aR 6 0] V_3 (fun V_5 => (∀ V_6 : Mem, V_6 = mu V_5 2 0 5 ((V_5 2 0 5) + 1) → (∃ j_7 : Nat, (V_6 6 0 3) = nI j_7 ∧ j_7 < 3 ∧ (∀ V_8 : Mem, V_8 = mu V_6 16 0 j_7 z_4 → Q (some (aI z_4)) V_8))))))) ∧ (¬ (V_3 2 0 5) < 14 → Q (some (aI (-1000000003))) V_3))) ∧ (x_2 = 0 → Q (some (aI ((-100) - (V_3 6 0 5)))) V_3)))))
set_option maxRecDepth 10000 in
theorem okX6_text_0 {d : Nat} {P : Option AV → Mem → Prop}      (V : Mem)  (h : wpX6_text_0 (Cl UX d)    V P) : Gq (Kp (d + 1) mX6_text UX P) UX cX6_text 3 RX6 0 [(0, aR 0 0)] [] V := by
  unfold wpX6_text_0 at h
  refine go_aload_n (q := 0) dX6_text_0 rfl rfl ?_
  refine go_getr fg_X6_48 dX6_text_1 (mX (n := 1) (by decide) rfl (by omega)) ?_
  refine go_aload_n (q := 0) dX6_text_4 rfl rfl ?_
  refine go_geti fg_X6_39 dX6_text_5 (mX (n := 1) (by decide) rfl (by omega)) ?_
  refine go_cVI (As := [aI (V 0 0 6)]) (st := []) (r := 6) (i := 0) mv_X1_readText dX6_text_8 ml_X6_242 (hr_Kp (Nat.le_refl d)) rfl rfl (mX (n := 1) (by decide) rfl (by omega)) rfl rfl (Nat.le_of_ble_eq_true rfl) h (fun x_2 V_1 h => ?_)
  refine go_istore_n (al1 := [(1, aI x_2), (0, aR 0 0)]) dX6_text_11 rfl (by decide) rfl ?_
  refine go_aload_n (q := 1) dX6_text_12 rfl rfl ?_
  refine go_iconst (v := 0) dX6_text_13 (by decide) ?_
  refine go_puti fp_X6_39 dX6_text_14 (mX (n := 1) (by decide) rfl (by omega)) ?_
  refine nmV (fun V_3 e_V_3 => ?_)
  have h := h V_3 e_V_3
  refine go_iload_n (q := 0) dX6_text_17 rfl rfl ?_
  refine go_if_ne (tgt := 32) dX6_text_18 (by decide) (fun c_10 => ?_) (fun c_10 => ?_)
  · have h := h.1 c_10
    refine go_aload_n (q := 1) dX6_text_32 rfl rfl ?_
    refine go_getr fg_X6_21 dX6_text_33 (mX (n := 1) (by decide) rfl (by omega)) ?_
    refine go_geti fg_X6_248 dX6_text_36 (mX (n := 3) (by decide) rfl (by omega)) ?_
    refine go_bipush (v := 14) dX6_text_39 (by decide) ?_
    refine go_icmp_lt (tgt := 47) dX6_text_41 (by decide) (fun c_9 => ?_) (fun c_9 => ?_)
    · have h := h.1 c_9
      refine go_aload_n (q := 1) dX6_text_47 rfl rfl ?_
      refine go_getr fg_X6_21 dX6_text_48 (mX (n := 1) (by decide) rfl (by omega)) ?_
      refine go_geti fg_X6_248 dX6_text_51 (mX (n := 3) (by decide) rfl (by omega)) ?_
      refine nmI (fun z_4 e_z_4 => ?_)
      have h := h z_4 e_z_4
      refine go_istore_n (al1 := [(2, aI z_4), (1, aI x_2), (0, aR 0 0)]) dX6_text_54 rfl (by decide) rfl ?_
      refine go_aload_n (q := 2) dX6_text_55 rfl rfl ?_
      refine go_getr fg_X6_10 dX6_text_56 (mX (n := 1) (by decide) rfl (by omega)) ?_
      refine go_iload_n (q := 0) dX6_text_59 rfl rfl ?_
      refine go_aload_n (q := 2) dX6_text_60 rfl rfl ?_
      refine go_getr fg_X6_48 dX6_text_61 (mX (n := 1) (by decide) rfl (by omega)) ?_
      refine go_cVV (As := [aI z_4, aR 6 0]) (st := []) (r := 1) (i := 0) mv_X0_put dX6_text_64 ml_X6_251 (hr_Kp (Nat.le_refl d)) rfl rfl (mX (n := 1) (by decide) rfl (by omega)) rfl rfl (Nat.le_of_ble_eq_true rfl) h (fun V_5 h => ?_)
      refine go_aload_n (q := 2) dX6_text_67 rfl rfl ?_
      refine go_getr fg_X6_21 dX6_text_68 (mX (n := 1) (by decide) rfl (by omega)) ?_
      refine go_dup dX6_text_71 rfl ?_
      refine go_geti fg_X6_248 dX6_text_72 (mX (n := 3) (by decide) rfl (by omega)) ?_
      refine go_iconst (v := 1) dX6_text_75 (by decide) ?_
      refine go_iadd dX6_text_76 ?_
      refine go_puti fp_X6_248 dX6_text_77 (mX (n := 3) (by decide) rfl (by omega)) ?_
      refine nmV (fun V_6 e_V_6 => ?_)
      have h := h V_6 e_V_6
      refine go_aload_n (q := 2) dX6_text_80 rfl rfl ?_
      refine go_getr fg_X6_21 dX6_text_81 (mX (n := 1) (by decide) rfl (by omega)) ?_
      refine go_getr fg_X6_255 dX6_text_84 (mX (n := 3) (by decide) rfl (by omega)) ?_
      refine go_aload_n (q := 2) dX6_text_87 rfl rfl ?_
      refine go_getr fg_X6_48 dX6_text_88 (mX (n := 1) (by decide) rfl (by omega)) ?_
      refine go_geti fg_X6_258 dX6_text_91 (mX (n := 1) (by decide) rfl (by omega)) ?_
      refine go_iload_n (q := 0) dX6_text_94 rfl rfl ?_
      obtain ⟨j_7, e_j_7, l_j_7, h⟩ := h
      refine go_iast (r := 16) (n := 3) (j := j_7) rfl (by decide) dX6_text_95 (mX (n := 3) (by decide) rfl (by omega)) e_j_7 l_j_7 ?_
      refine nmV (fun V_8 e_V_8 => ?_)
      have h := h V_8 e_V_8
      refine go_iload_n (q := 0) dX6_text_96 rfl rfl ?_
      exact go_iret rfl dX6_text_97 h
    · have h := h.2 c_9
      refine go_ldc dX6_text_44 ct_X6_87 ?_
      exact go_iret rfl dX6_text_46 h
  · have h := h.2 c_10
    refine go_bipush (v := (-100)) dX6_text_21 (by decide) ?_
    refine go_aload_n (q := 1) dX6_text_23 rfl rfl ?_
    refine go_getr fg_X6_48 dX6_text_24 (mX (n := 1) (by decide) rfl (by omega)) ?_
    refine go_geti fg_X6_245 dX6_text_27 (mX (n := 1) (by decide) rfl (by omega)) ?_
    refine go_isub dX6_text_30 ?_
    exact go_iret rfl dX6_text_31 h
theorem clX6_text {d : Nat} {P : Option AV → Mem → Prop}     (V : Mem)  (h : wpX6_text_0 (Cl UX d)    V P) : Cl UX (d + 1) mX6_text [aR 0 0] V P :=
  cl_of [(0, aR 0 0)] (by decide) (fun _ => Nat.le_of_ble_eq_true rfl) (fun _ => rfl) (okX6_text_0    V  h)
theorem dX6_textTold_0 : decode cX6_textTold 0 = .ok (.iload_n 1, 1) := by decide +kernel
theorem dX6_textTold_1 : decode cX6_textTold 1 = .ok (.iconst 0, 1) := by decide +kernel
theorem dX6_textTold_2 : decode cX6_textTold 2 = .ok (.aload_n 0, 1) := by decide +kernel
theorem dX6_textTold_3 : decode cX6_textTold 3 = .ok (.getfield 21, 3) := by decide +kernel
theorem dX6_textTold_6 : decode cX6_textTold 6 = .ok (.getfield 248, 3) := by decide +kernel
theorem dX6_textTold_9 : decode cX6_textTold 9 = .ok (.iconst 1, 1) := by decide +kernel
theorem dX6_textTold_10 : decode cX6_textTold 10 = .ok (.isub, 1) := by decide +kernel
theorem dX6_textTold_11 : decode cX6_textTold 11 = .ok (.invokestatic 79, 3) := by decide +kernel
theorem dX6_textTold_14 : decode cX6_textTold 14 = .ok (.ifCond .ne 6, 3) := by decide +kernel
theorem dX6_textTold_17 : decode cX6_textTold 17 = .ok (.ldc 83, 2) := by decide +kernel
theorem dX6_textTold_19 : decode cX6_textTold 19 = .ok (.ireturn, 1) := by decide +kernel
theorem dX6_textTold_20 : decode cX6_textTold 20 = .ok (.iload_n 2, 1) := by decide +kernel
theorem dX6_textTold_21 : decode cX6_textTold 21 = .ok (.lookupswitch 47 #[(0, 27), (1, 37)], 27) := by decide +kernel
theorem dX6_textTold_48 : decode cX6_textTold 48 = .ok (.aload_n 0, 1) := by decide +kernel
theorem dX6_textTold_49 : decode cX6_textTold 49 = .ok (.getfield 10, 3) := by decide +kernel
theorem dX6_textTold_52 : decode cX6_textTold 52 = .ok (.getfield 261, 3) := by decide +kernel
theorem dX6_textTold_55 : decode cX6_textTold 55 = .ok (.iload_n 1, 1) := by decide +kernel
theorem dX6_textTold_56 : decode cX6_textTold 56 = .ok (.iaload, 1) := by decide +kernel
theorem dX6_textTold_57 : decode cX6_textTold 57 = .ok (.ireturn, 1) := by decide +kernel
theorem dX6_textTold_58 : decode cX6_textTold 58 = .ok (.aload_n 0, 1) := by decide +kernel
theorem dX6_textTold_59 : decode cX6_textTold 59 = .ok (.getfield 10, 3) := by decide +kernel
theorem dX6_textTold_62 : decode cX6_textTold 62 = .ok (.getfield 264, 3) := by decide +kernel
theorem dX6_textTold_65 : decode cX6_textTold 65 = .ok (.iload_n 1, 1) := by decide +kernel
theorem dX6_textTold_66 : decode cX6_textTold 66 = .ok (.iaload, 1) := by decide +kernel
theorem dX6_textTold_67 : decode cX6_textTold 67 = .ok (.ireturn, 1) := by decide +kernel
theorem dX6_textTold_68 : decode cX6_textTold 68 = .ok (.ldc 83, 2) := by decide +kernel
theorem dX6_textTold_70 : decode cX6_textTold 70 = .ok (.ireturn, 1) := by decide +kernel
def wpX6_textTold_0 (C : CT)   (x1 : Int32) (x2 : Int32) (V : Mem) (Q : Option AV → Mem → Prop) : Prop :=
  (cI C mX6_isWithin [aI x1, aI 0, aI ((V 2 0 5) - 1)] V (fun x_2 V_1 => ((¬ x_2 = 0 → ((x2 = 0 → (∃ j_3 : Nat, x1 = nI j_3 ∧ j_3 < 14 ∧ Q (some (aI (V_1 7 0 j_3))) V_1)) ∧ (x2 = 1 → (∃ j_4 : Nat, x1 = nI j_4 ∧ j_4 < 14 ∧ Q (some (aI (V_1 8 0 j_4))) V_1)) ∧ (¬ x2 = 0 ∧ ¬ x2 = 1 → Q (some (aI (-1000000001))) V_1))) ∧ (x_2 = 0 → Q (some (aI (-1000000001))) V_1))))
set_option maxRecDepth 10000 in
theorem okX6_textTold_0 {d : Nat} {P : Option AV → Mem → Prop}    (x1 : Int32) (x2 : Int32)  (V : Mem)  (h : wpX6_textTold_0 (Cl UX d)   x1 x2 V P) : Gq (Kp (d + 1) mX6_textTold UX P) UX cX6_textTold 3 RX6 0 [(0, aR 0 0), (1, aI x1), (2, aI x2)] [] V := by
  unfold wpX6_textTold_0 at h
  refine go_iload_n (q := 1) dX6_textTold_0 rfl rfl ?_
  refine go_iconst (v := 0) dX6_textTold_1 (by decide) ?_
  refine go_aload_n (q := 0) dX6_textTold_2 rfl rfl ?_
  refine go_getr fg_X6_21 dX6_textTold_3 (mX (n := 1) (by decide) rfl (by omega)) ?_
  refine go_geti fg_X6_248 dX6_textTold_6 (mX (n := 3) (by decide) rfl (by omega)) ?_
  refine go_iconst (v := 1) dX6_textTold_9 (by decide) ?_
  refine go_isub dX6_textTold_10 ?_
  refine go_cSI (As := [aI x1, aI 0, aI ((V 2 0 5) - 1)]) (st := []) ms_X6_isWithin dX6_textTold_11 ml_X6_79 (hr_Kp (Nat.le_refl d)) rfl rfl (Nat.le_of_ble_eq_true rfl) h (fun x_2 V_1 h => ?_)
  refine go_if_ne (tgt := 20) dX6_textTold_14 (by decide) (fun c_5 => ?_) (fun c_5 => ?_)
  · have h := h.1 c_5
    refine go_iload_n (q := 2) dX6_textTold_20 rfl rfl ?_
    by_cases c21_0 : x2 = 0
    · have h := h.1 c21_0
      refine go_lookC (z := 0) (off := 27) (tgt := 48) c21_0 dX6_textTold_21 (by decide) (by decide) (by decide) ?_
      refine go_aload_n (q := 0) dX6_textTold_48 rfl rfl ?_
      refine go_getr fg_X6_10 dX6_textTold_49 (mX (n := 1) (by decide) rfl (by omega)) ?_
      refine go_getr fg_X6_261 dX6_textTold_52 (mX (n := 1) (by decide) rfl (by omega)) ?_
      refine go_iload_n (q := 1) dX6_textTold_55 rfl rfl ?_
      obtain ⟨j_3, e_j_3, l_j_3, h⟩ := h
      refine go_iald (r := 7) (n := 14) (j := j_3) rfl (by decide) dX6_textTold_56 (mX (n := 1) (by decide) rfl (by omega)) e_j_3 l_j_3 ?_
      exact go_iret rfl dX6_textTold_57 h
    by_cases c21_1 : x2 = 1
    · have h := h.2.1 c21_1
      refine go_lookC (z := 1) (off := 37) (tgt := 58) c21_1 dX6_textTold_21 (by decide) (by decide) (by decide) ?_
      refine go_aload_n (q := 0) dX6_textTold_58 rfl rfl ?_
      refine go_getr fg_X6_10 dX6_textTold_59 (mX (n := 1) (by decide) rfl (by omega)) ?_
      refine go_getr fg_X6_264 dX6_textTold_62 (mX (n := 1) (by decide) rfl (by omega)) ?_
      refine go_iload_n (q := 1) dX6_textTold_65 rfl rfl ?_
      obtain ⟨j_4, e_j_4, l_j_4, h⟩ := h
      refine go_iald (r := 8) (n := 14) (j := j_4) rfl (by decide) dX6_textTold_66 (mX (n := 1) (by decide) rfl (by omega)) e_j_4 l_j_4 ?_
      exact go_iret rfl dX6_textTold_67 h
    have h := h.2.2 ⟨c21_0, c21_1⟩
    refine go_lookup (off := 47) (tgt := 68) dX6_textTold_21 (by decide) (by show Op.lookupswitch.offset [(0, 27), (1, 37)] _ _ = _; rw [lv_osw c21_0 (show (0 : Int32).toInt = 0 from rfl), lv_osw c21_1 (show (1 : Int32).toInt = 1 from rfl)]; rfl) (by decide) ?_
    refine go_ldc dX6_textTold_68 ct_X6_83 ?_
    exact go_iret rfl dX6_textTold_70 h
  · have h := h.2 c_5
    refine go_ldc dX6_textTold_17 ct_X6_83 ?_
    exact go_iret rfl dX6_textTold_19 h
theorem clX6_textTold {d : Nat} {P : Option AV → Mem → Prop}    (x1 : Int32) (x2 : Int32) (V : Mem)  (h : wpX6_textTold_0 (Cl UX d)   x1 x2 V P) : Cl UX (d + 1) mX6_textTold [aR 0 0, aI x1, aI x2] V P :=
  cl_of [(0, aR 0 0), (1, aI x1), (2, aI x2)] (by decide) (fun _ => Nat.le_of_ble_eq_true rfl) (fun _ => rfl) (okX6_textTold_0   x1 x2 V  h)
theorem dX6_why_0 : decode cX6_why 0 = .ok (.iload_n 1, 1) := by decide +kernel
theorem dX6_why_1 : decode cX6_why 1 = .ok (.iconst 0, 1) := by decide +kernel
theorem dX6_why_2 : decode cX6_why 2 = .ok (.iconst 2, 1) := by decide +kernel
theorem dX6_why_3 : decode cX6_why 3 = .ok (.invokestatic 79, 3) := by decide +kernel
theorem dX6_why_6 : decode cX6_why 6 = .ok (.ifCond .eq 15, 3) := by decide +kernel
theorem dX6_why_9 : decode cX6_why 9 = .ok (.aload_n 0, 1) := by decide +kernel
theorem dX6_why_10 : decode cX6_why 10 = .ok (.getfield 21, 3) := by decide +kernel
theorem dX6_why_13 : decode cX6_why 13 = .ok (.getfield 255, 3) := by decide +kernel
theorem dX6_why_16 : decode cX6_why 16 = .ok (.iload_n 1, 1) := by decide +kernel
theorem dX6_why_17 : decode cX6_why 17 = .ok (.iaload, 1) := by decide +kernel
theorem dX6_why_18 : decode cX6_why 18 = .ok (.goto 5, 3) := by decide +kernel
theorem dX6_why_21 : decode cX6_why 21 = .ok (.ldc 83, 2) := by decide +kernel
theorem dX6_why_23 : decode cX6_why 23 = .ok (.ireturn, 1) := by decide +kernel
def wpX6_why_0 (C : CT)   (x1 : Int32) (V : Mem) (Q : Option AV → Mem → Prop) : Prop :=
  (cI C mX6_isWithin [aI x1, aI 0, aI 2] V (fun x_2 V_1 => ((x_2 = 0 → Q (some (aI (-1000000001))) V_1) ∧ (¬ x_2 = 0 → (∃ j_3 : Nat, x1 = nI j_3 ∧ j_3 < 3 ∧ Q (some (aI (V_1 16 0 j_3))) V_1)))))
set_option maxRecDepth 10000 in
theorem okX6_why_0 {d : Nat} {P : Option AV → Mem → Prop}    (x1 : Int32)  (V : Mem)  (h : wpX6_why_0 (Cl UX d)   x1 V P) : Gq (Kp (d + 1) mX6_why UX P) UX cX6_why 2 RX6 0 [(0, aR 0 0), (1, aI x1)] [] V := by
  unfold wpX6_why_0 at h
  refine go_iload_n (q := 1) dX6_why_0 rfl rfl ?_
  refine go_iconst (v := 0) dX6_why_1 (by decide) ?_
  refine go_iconst (v := 2) dX6_why_2 (by decide) ?_
  refine go_cSI (As := [aI x1, aI 0, aI 2]) (st := []) ms_X6_isWithin dX6_why_3 ml_X6_79 (hr_Kp (Nat.le_refl d)) rfl rfl (Nat.le_of_ble_eq_true rfl) h (fun x_2 V_1 h => ?_)
  refine go_if_eq (tgt := 21) dX6_why_6 (by decide) (fun c_4 => ?_) (fun c_4 => ?_)
  · have h := h.1 c_4
    refine go_ldc dX6_why_21 ct_X6_83 ?_
    exact go_iret rfl dX6_why_23 h
  · have h := h.2 c_4
    refine go_aload_n (q := 0) dX6_why_9 rfl rfl ?_
    refine go_getr fg_X6_21 dX6_why_10 (mX (n := 1) (by decide) rfl (by omega)) ?_
    refine go_getr fg_X6_255 dX6_why_13 (mX (n := 3) (by decide) rfl (by omega)) ?_
    refine go_iload_n (q := 1) dX6_why_16 rfl rfl ?_
    obtain ⟨j_3, e_j_3, l_j_3, h⟩ := h
    refine go_iald (r := 16) (n := 3) (j := j_3) rfl (by decide) dX6_why_17 (mX (n := 3) (by decide) rfl (by omega)) e_j_3 l_j_3 ?_
    refine go_goto (tgt := 23) dX6_why_18 (by decide) ?_
    exact go_iret rfl dX6_why_23 h
theorem clX6_why {d : Nat} {P : Option AV → Mem → Prop}    (x1 : Int32) (V : Mem)  (h : wpX6_why_0 (Cl UX d)   x1 V P) : Cl UX (d + 1) mX6_why [aR 0 0, aI x1] V P :=
  cl_of [(0, aR 0 0), (1, aI x1)] (by decide) (fun _ => Nat.le_of_ble_eq_true rfl) (fun _ => rfl) (okX6_why_0   x1 V  h)
