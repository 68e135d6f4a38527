theorem dX7_hour_0 : decode cX7_hour 0 = .ok (.aload_n 0, 1) := by decide +kernel
theorem dX7_hour_1 : decode cX7_hour 1 = .ok (.getfield 9, 3) := by decide +kernel
theorem dX7_hour_4 : decode cX7_hour 4 = .ok (.bipush 11, 2) := by decide +kernel
theorem dX7_hour_6 : decode cX7_hour 6 = .ok (.aload_n 0, 1) := by decide +kernel
theorem dX7_hour_7 : decode cX7_hour 7 = .ok (.invokevirtual 90, 3) := by decide +kernel
theorem dX7_hour_10 : decode cX7_hour 10 = .ok (.iadd, 1) := by decide +kernel
theorem dX7_hour_11 : decode cX7_hour 11 = .ok (.iaload, 1) := by decide +kernel
theorem dX7_hour_12 : decode cX7_hour 12 = .ok (.istore_n 1, 1) := by decide +kernel
theorem dX7_hour_13 : decode cX7_hour 13 = .ok (.aload_n 0, 1) := by decide +kernel
theorem dX7_hour_14 : decode cX7_hour 14 = .ok (.iload_n 1, 1) := by decide +kernel
theorem dX7_hour_15 : decode cX7_hour 15 = .ok (.aload_n 0, 1) := by decide +kernel
theorem dX7_hour_16 : decode cX7_hour 16 = .ok (.getfield 9, 3) := by decide +kernel
theorem dX7_hour_19 : decode cX7_hour 19 = .ok (.bipush 35, 2) := by decide +kernel
theorem dX7_hour_21 : decode cX7_hour 21 = .ok (.aload_n 0, 1) := by decide +kernel
theorem dX7_hour_22 : decode cX7_hour 22 = .ok (.invokevirtual 90, 3) := by decide +kernel
theorem dX7_hour_25 : decode cX7_hour 25 = .ok (.iadd, 1) := by decide +kernel
theorem dX7_hour_26 : decode cX7_hour 26 = .ok (.iaload, 1) := by decide +kernel
theorem dX7_hour_27 : decode cX7_hour 27 = .ok (.invokevirtual 146, 3) := by decide +kernel
theorem dX7_hour_30 : decode cX7_hour 30 = .ok (.aload_n 0, 1) := by decide +kernel
theorem dX7_hour_31 : decode cX7_hour 31 = .ok (.invokevirtual 149, 3) := by decide +kernel
theorem dX7_hour_34 : decode cX7_hour 34 = .ok (.istore_n 2, 1) := by decide +kernel
theorem dX7_hour_35 : decode cX7_hour 35 = .ok (.iconst 0, 1) := by decide +kernel
theorem dX7_hour_36 : decode cX7_hour 36 = .ok (.istore_n 3, 1) := by decide +kernel
theorem dX7_hour_37 : decode cX7_hour 37 = .ok (.iload_n 3, 1) := by decide +kernel
theorem dX7_hour_38 : decode cX7_hour 38 = .ok (.aload_n 0, 1) := by decide +kernel
theorem dX7_hour_39 : decode cX7_hour 39 = .ok (.getfield 9, 3) := by decide +kernel
theorem dX7_hour_42 : decode cX7_hour 42 = .ok (.iconst 1, 1) := by decide +kernel
theorem dX7_hour_43 : decode cX7_hour 43 = .ok (.iaload, 1) := by decide +kernel
theorem dX7_hour_44 : decode cX7_hour 44 = .ok (.if_icmp .ge 64, 3) := by decide +kernel
theorem dX7_hour_47 : decode cX7_hour 47 = .ok (.aload_n 0, 1) := by decide +kernel
theorem dX7_hour_48 : decode cX7_hour 48 = .ok (.iload_n 3, 1) := by decide +kernel
theorem dX7_hour_49 : decode cX7_hour 49 = .ok (.invokevirtual 115, 3) := by decide +kernel
theorem dX7_hour_52 : decode cX7_hour 52 = .ok (.istore 4, 2) := by decide +kernel
theorem dX7_hour_54 : decode cX7_hour 54 = .ok (.aload_n 0, 1) := by decide +kernel
theorem dX7_hour_55 : decode cX7_hour 55 = .ok (.iload_n 3, 1) := by decide +kernel
theorem dX7_hour_56 : decode cX7_hour 56 = .ok (.invokevirtual 121, 3) := by decide +kernel
theorem dX7_hour_59 : decode cX7_hour 59 = .ok (.istore 5, 2) := by decide +kernel
theorem dX7_hour_61 : decode cX7_hour 61 = .ok (.aload_n 0, 1) := by decide +kernel
theorem dX7_hour_62 : decode cX7_hour 62 = .ok (.iload_n 3, 1) := by decide +kernel
theorem dX7_hour_63 : decode cX7_hour 63 = .ok (.iconst 5, 1) := by decide +kernel
theorem dX7_hour_64 : decode cX7_hour 64 = .ok (.aload_n 0, 1) := by decide +kernel
theorem dX7_hour_65 : decode cX7_hour 65 = .ok (.iload_n 3, 1) := by decide +kernel
theorem dX7_hour_66 : decode cX7_hour 66 = .ok (.iconst 5, 1) := by decide +kernel
theorem dX7_hour_67 : decode cX7_hour 67 = .ok (.invokevirtual 94, 3) := by decide +kernel
theorem dX7_hour_70 : decode cX7_hour 70 = .ok (.iload 4, 2) := by decide +kernel
theorem dX7_hour_72 : decode cX7_hour 72 = .ok (.isub, 1) := by decide +kernel
theorem dX7_hour_73 : decode cX7_hour 73 = .ok (.invokevirtual 80, 3) := by decide +kernel
theorem dX7_hour_76 : decode cX7_hour 76 = .ok (.iload 5, 2) := by decide +kernel
theorem dX7_hour_78 : decode cX7_hour 78 = .ok (.ifCond .eq 13, 3) := by decide +kernel
theorem dX7_hour_81 : decode cX7_hour 81 = .ok (.aload_n 0, 1) := by decide +kernel
theorem dX7_hour_82 : decode cX7_hour 82 = .ok (.iload_n 3, 1) := by decide +kernel
theorem dX7_hour_83 : decode cX7_hour 83 = .ok (.iload 4, 2) := by decide +kernel
theorem dX7_hour_85 : decode cX7_hour 85 = .ok (.invokevirtual 135, 3) := by decide +kernel
theorem dX7_hour_88 : decode cX7_hour 88 = .ok (.goto 14, 3) := by decide +kernel
theorem dX7_hour_91 : decode cX7_hour 91 = .ok (.aload_n 0, 1) := by decide +kernel
theorem dX7_hour_92 : decode cX7_hour 92 = .ok (.getfield 9, 3) := by decide +kernel
theorem dX7_hour_95 : decode cX7_hour 95 = .ok (.iconst 5, 1) := by decide +kernel
theorem dX7_hour_96 : decode cX7_hour 96 = .ok (.dup2, 1) := by decide +kernel
theorem dX7_hour_97 : decode cX7_hour 97 = .ok (.iaload, 1) := by decide +kernel
theorem dX7_hour_98 : decode cX7_hour 98 = .ok (.iload 4, 2) := by decide +kernel
theorem dX7_hour_100 : decode cX7_hour 100 = .ok (.iadd, 1) := by decide +kernel
theorem dX7_hour_101 : decode cX7_hour 101 = .ok (.iastore, 1) := by decide +kernel
theorem dX7_hour_102 : decode cX7_hour 102 = .ok (.iinc 3 1, 3) := by decide +kernel
theorem dX7_hour_105 : decode cX7_hour 105 = .ok (.goto (-68), 3) := by decide +kernel
theorem dX7_hour_108 : decode cX7_hour 108 = .ok (.iconst 5, 1) := by decide +kernel
theorem dX7_hour_109 : decode cX7_hour 109 = .ok (.iload_n 1, 1) := by decide +kernel
theorem dX7_hour_110 : decode cX7_hour 110 = .ok (.imul, 1) := by decide +kernel
theorem dX7_hour_111 : decode cX7_hour 111 = .ok (.iconst 0, 1) := by decide +kernel
theorem dX7_hour_112 : decode cX7_hour 112 = .ok (.aload_n 0, 1) := by decide +kernel
theorem dX7_hour_113 : decode cX7_hour 113 = .ok (.getfield 9, 3) := by decide +kernel
theorem dX7_hour_116 : decode cX7_hour 116 = .ok (.iconst 4, 1) := by decide +kernel
theorem dX7_hour_117 : decode cX7_hour 117 = .ok (.iaload, 1) := by decide +kernel
theorem dX7_hour_118 : decode cX7_hour 118 = .ok (.invokestatic 104, 3) := by decide +kernel
theorem dX7_hour_121 : decode cX7_hour 121 = .ok (.istore_n 3, 1) := by decide +kernel
theorem dX7_hour_122 : decode cX7_hour 122 = .ok (.aload_n 0, 1) := by decide +kernel
theorem dX7_hour_123 : decode cX7_hour 123 = .ok (.getfield 9, 3) := by decide +kernel
theorem dX7_hour_126 : decode cX7_hour 126 = .ok (.iconst 4, 1) := by decide +kernel
theorem dX7_hour_127 : decode cX7_hour 127 = .ok (.dup2, 1) := by decide +kernel
theorem dX7_hour_128 : decode cX7_hour 128 = .ok (.iaload, 1) := by decide +kernel
theorem dX7_hour_129 : decode cX7_hour 129 = .ok (.iload_n 3, 1) := by decide +kernel
theorem dX7_hour_130 : decode cX7_hour 130 = .ok (.isub, 1) := by decide +kernel
theorem dX7_hour_131 : decode cX7_hour 131 = .ok (.iastore, 1) := by decide +kernel
theorem dX7_hour_132 : decode cX7_hour 132 = .ok (.aload_n 0, 1) := by decide +kernel
theorem dX7_hour_133 : decode cX7_hour 133 = .ok (.getfield 9, 3) := by decide +kernel
theorem dX7_hour_136 : decode cX7_hour 136 = .ok (.iconst 5, 1) := by decide +kernel
theorem dX7_hour_137 : decode cX7_hour 137 = .ok (.dup2, 1) := by decide +kernel
theorem dX7_hour_138 : decode cX7_hour 138 = .ok (.iaload, 1) := by decide +kernel
theorem dX7_hour_139 : decode cX7_hour 139 = .ok (.iload_n 3, 1) := by decide +kernel
theorem dX7_hour_140 : decode cX7_hour 140 = .ok (.iadd, 1) := by decide +kernel
theorem dX7_hour_141 : decode cX7_hour 141 = .ok (.iastore, 1) := by decide +kernel
theorem dX7_hour_142 : decode cX7_hour 142 = .ok (.aload_n 0, 1) := by decide +kernel
theorem dX7_hour_143 : decode cX7_hour 143 = .ok (.getfield 9, 3) := by decide +kernel
theorem dX7_hour_146 : decode cX7_hour 146 = .ok (.iconst 2, 1) := by decide +kernel
theorem dX7_hour_147 : decode cX7_hour 147 = .ok (.dup2, 1) := by decide +kernel
theorem dX7_hour_148 : decode cX7_hour 148 = .ok (.iaload, 1) := by decide +kernel
theorem dX7_hour_149 : decode cX7_hour 149 = .ok (.iconst 1, 1) := by decide +kernel
theorem dX7_hour_150 : decode cX7_hour 150 = .ok (.iadd, 1) := by decide +kernel
theorem dX7_hour_151 : decode cX7_hour 151 = .ok (.iastore, 1) := by decide +kernel
theorem dX7_hour_152 : decode cX7_hour 152 = .ok (.iload_n 2, 1) := by decide +kernel
theorem dX7_hour_153 : decode cX7_hour 153 = .ok (.ireturn, 1) := by decide +kernel
def wpX7_hour_37 (C : CT) (I37 : Int32 → Int32 → Int32 → Mem → Prop)  (x1 : Int32) (x2 : Int32) (x3 : Int32) (V : Mem) (Q : Option AV → Mem → Prop) : Prop :=
  (((V 25 0 1) ≤ x3 → (cI C mX7_within [aI (5 * x1), aI 0, aI (V 25 0 4)] V (fun x_2 V_1 => (∀ V_3 : Mem, V_3 = mu V_1 25 0 4 ((V_1 25 0 4) - x_2) → (∀ V_4 : Mem, V_4 = mu V_3 25 0 5 ((V_3 25 0 5) + x_2) → (∀ V_5 : Mem, V_5 = mu V_4 25 0 2 ((V_4 25 0 2) + 1) → Q (some (aI x2)) V_5)))))) ∧ (¬ (V 25 0 1) ≤ x3 → (cI C mX7_meltsOf [aR 24 0, aI x3] V (fun x_7 V_6 => (cI C mX7_owns [aR 24 0, aI x3] V_6 (fun x_9 V_8 => (cI C mX7_of [aR 24 0, aI x3, aI 5] V_8 (fun x_11 V_10 => (cV C mX7_put [aR 24 0, aI x3, aI 5, aI (x_11 - x_7)] V_10 (fun V_12 => ((x_9 = 0 → (∀ V_13 : Mem, V_13 = mu V_12 25 0 5 ((V_12 25 0 5) + x_7) → I37 x1 x2 (x3 + 1) V_13)) ∧ (¬ x_9 = 0 → (cV C mX7_rains [aR 24 0, aI x3, aI x_7] V_12 (fun V_14 => I37 x1 x2 (x3 + 1) V_14))))))))))))))
set_option maxRecDepth 10000 in
theorem okX7_hour_37 {d : Nat} {P : Option AV → Mem → Prop} {I37 : Int32 → Int32 → Int32 → Mem → Prop}   (x1 : Int32) (x2 : Int32) (x3 : Int32)  (V : Mem) (hk37 : ∀ (x1 : Int32) (x2 : Int32) (x3 : Int32), ∀ (V : Mem), I37 x1 x2 x3 V → Gq (Kp (d + 1) mX7_hour UM P) UM cX7_hour 6 RX7 37 [(0, aR 24 0), (1, aI x1), (2, aI x2), (3, aI x3)] [] V) (h : wpX7_hour_37 (Cl UM d) I37  x1 x2 x3 V P) : Gq (Kp (d + 1) mX7_hour UM P) UM cX7_hour 6 RX7 37 [(0, aR 24 0), (1, aI x1), (2, aI x2), (3, aI x3)] [] V := by
  unfold wpX7_hour_37 at h
  refine go_iload_n (q := 3) dX7_hour_37 rfl rfl ?_
  refine go_aload_n (q := 0) dX7_hour_38 rfl rfl ?_
  refine go_getr fg_X7_9 dX7_hour_39 (mM (by decide) (by decide) rfl) ?_
  refine go_iconst (v := 1) dX7_hour_42 (by decide) ?_
  refine go_iald (r := 25) (n := 1479) (j := 1) rfl (by decide) dX7_hour_43 (mM (by decide) (by decide) rfl) (by decide) (by decide) ?_
  refine go_icmp_ge (tgt := 108) dX7_hour_44 (by decide) (fun c_16 => ?_) (fun c_16 => ?_)
  · have h := h.1 c_16
    refine go_iconst (v := 5) dX7_hour_108 (by decide) ?_
    refine go_iload_n (q := 1) dX7_hour_109 rfl rfl ?_
    refine go_imul dX7_hour_110 ?_
    refine go_iconst (v := 0) dX7_hour_111 (by decide) ?_
    refine go_aload_n (q := 0) dX7_hour_112 rfl rfl ?_
    refine go_getr fg_X7_9 dX7_hour_113 (mM (by decide) (by decide) rfl) ?_
    refine go_iconst (v := 4) dX7_hour_116 (by decide) ?_
    refine go_iald (r := 25) (n := 1479) (j := 4) rfl (by decide) dX7_hour_117 (mM (by decide) (by decide) rfl) (by decide) (by decide) ?_
    refine go_cSI (As := [aI (5 * x1), aI 0, aI (V 25 0 4)]) (st := []) ms_X7_within dX7_hour_118 ml_X7_104 (hr_Kp (Nat.le_refl d)) rfl rfl (Nat.le_of_ble_eq_true rfl) h (fun x_2 V_1 h => ?_)
    refine go_istore_n (al1 := [(3, aI x_2), (0, aR 24 0), (1, aI x1), (2, aI x2)]) dX7_hour_121 rfl (by decide) rfl ?_
    refine go_aload_n (q := 1) dX7_hour_122 rfl rfl ?_
    refine go_getr fg_X7_9 dX7_hour_123 (mM (by decide) (by decide) rfl) ?_
    refine go_iconst (v := 4) dX7_hour_126 (by decide) ?_
    refine go_dup2 dX7_hour_127 rfl rfl ?_
    refine go_iald (r := 25) (n := 1479) (j := 4) rfl (by decide) dX7_hour_128 (mM (by decide) (by decide) rfl) (by decide) (by decide) ?_
    refine go_iload_n (q := 0) dX7_hour_129 rfl rfl ?_
    refine go_isub dX7_hour_130 ?_
    refine go_iast (r := 25) (n := 1479) (j := 4) rfl (by decide) dX7_hour_131 (mM (by decide) (by decide) rfl) (by decide) (by decide) ?_
    refine nmV (fun V_3 e_V_3 => ?_)
    have h := h V_3 e_V_3
    refine go_aload_n (q := 1) dX7_hour_132 rfl rfl ?_
    refine go_getr fg_X7_9 dX7_hour_133 (mM (by decide) (by decide) rfl) ?_
    refine go_iconst (v := 5) dX7_hour_136 (by decide) ?_
    refine go_dup2 dX7_hour_137 rfl rfl ?_
    refine go_iald (r := 25) (n := 1479) (j := 5) rfl (by decide) dX7_hour_138 (mM (by decide) (by decide) rfl) (by decide) (by decide) ?_
    refine go_iload_n (q := 0) dX7_hour_139 rfl rfl ?_
    refine go_iadd dX7_hour_140 ?_
    refine go_iast (r := 25) (n := 1479) (j := 5) rfl (by decide) dX7_hour_141 (mM (by decide) (by decide) rfl) (by decide) (by decide) ?_
    refine nmV (fun V_4 e_V_4 => ?_)
    have h := h V_4 e_V_4
    refine go_aload_n (q := 1) dX7_hour_142 rfl rfl ?_
    refine go_getr fg_X7_9 dX7_hour_143 (mM (by decide) (by decide) rfl) ?_
    refine go_iconst (v := 2) dX7_hour_146 (by decide) ?_
    refine go_dup2 dX7_hour_147 rfl rfl ?_
    refine go_iald (r := 25) (n := 1479) (j := 2) rfl (by decide) dX7_hour_148 (mM (by decide) (by decide) rfl) (by decide) (by decide) ?_
    refine go_iconst (v := 1) dX7_hour_149 (by decide) ?_
    refine go_iadd dX7_hour_150 ?_
    refine go_iast (r := 25) (n := 1479) (j := 2) rfl (by decide) dX7_hour_151 (mM (by decide) (by decide) rfl) (by decide) (by decide) ?_
    refine nmV (fun V_5 e_V_5 => ?_)
    have h := h V_5 e_V_5
    refine go_iload_n (q := 3) dX7_hour_152 rfl rfl ?_
    exact go_iret rfl dX7_hour_153 h
  · have h := h.2 c_16
    refine go_aload_n (q := 0) dX7_hour_47 rfl rfl ?_
    refine go_iload_n (q := 3) dX7_hour_48 rfl rfl ?_
    refine go_cVI (As := [aI x3]) (st := []) (r := 24) (i := 0) mv_X7_meltsOf dX7_hour_49 ml_X7_115 (hr_Kp (Nat.le_refl d)) rfl rfl (mM (by decide) (by decide) rfl) rfl rfl (Nat.le_of_ble_eq_true rfl) h (fun x_7 V_6 h => ?_)
    refine go_istore (al1 := [(4, aI x_7), (0, aR 24 0), (1, aI x1), (2, aI x2), (3, aI x3)]) dX7_hour_52 (by decide) rfl ?_
    refine go_aload_n (q := 1) dX7_hour_54 rfl rfl ?_
    refine go_iload_n (q := 4) dX7_hour_55 rfl rfl ?_
    refine go_cVI (As := [aI x3]) (st := []) (r := 24) (i := 0) mv_X7_owns dX7_hour_56 ml_X7_121 (hr_Kp (Nat.le_refl d)) rfl rfl (mM (by decide) (by decide) rfl) rfl rfl (Nat.le_of_ble_eq_true rfl) h (fun x_9 V_8 h => ?_)
    refine go_istore (al1 := [(5, aI x_9), (4, aI x_7), (0, aR 24 0), (1, aI x1), (2, aI x2), (3, aI x3)]) dX7_hour_59 (by decide) rfl ?_
    refine go_aload_n (q := 2) dX7_hour_61 rfl rfl ?_
    refine go_iload_n (q := 5) dX7_hour_62 rfl rfl ?_
    refine go_iconst (v := 5) dX7_hour_63 (by decide) ?_
    refine go_aload_n (q := 2) dX7_hour_64 rfl rfl ?_
    refine go_iload_n (q := 5) dX7_hour_65 rfl rfl ?_
    refine go_iconst (v := 5) dX7_hour_66 (by decide) ?_
    refine go_cVI (As := [aI x3, aI 5]) (st := [aI 5, aI x3, aR 24 0]) (r := 24) (i := 0) mv_X7_of dX7_hour_67 ml_X7_94 (hr_Kp (Nat.le_refl d)) rfl rfl (mM (by decide) (by decide) rfl) rfl rfl (Nat.le_of_ble_eq_true rfl) h (fun x_11 V_10 h => ?_)
    refine go_iload (q := 1) dX7_hour_70 rfl ?_
    refine go_isub dX7_hour_72 ?_
    refine go_cVV (As := [aI x3, aI 5, aI (x_11 - x_7)]) (st := []) (r := 24) (i := 0) mv_X7_put dX7_hour_73 ml_X7_80 (hr_Kp (Nat.le_refl d)) rfl rfl (mM (by decide) (by decide) rfl) rfl rfl (Nat.le_of_ble_eq_true rfl) h (fun V_12 h => ?_)
    refine go_iload (q := 0) dX7_hour_76 rfl ?_
    refine go_if_eq (tgt := 91) dX7_hour_78 (by decide) (fun c_15 => ?_) (fun c_15 => ?_)
    · have h := h.1 c_15
      refine go_aload_n (q := 2) dX7_hour_91 rfl rfl ?_
      refine go_getr fg_X7_9 dX7_hour_92 (mM (by decide) (by decide) rfl) ?_
      refine go_iconst (v := 5) dX7_hour_95 (by decide) ?_
      refine go_dup2 dX7_hour_96 rfl rfl ?_
      refine go_iald (r := 25) (n := 1479) (j := 5) rfl (by decide) dX7_hour_97 (mM (by decide) (by decide) rfl) (by decide) (by decide) ?_
      refine go_iload (q := 1) dX7_hour_98 rfl ?_
      refine go_iadd dX7_hour_100 ?_
      refine go_iast (r := 25) (n := 1479) (j := 5) rfl (by decide) dX7_hour_101 (mM (by decide) (by decide) rfl) (by decide) (by decide) ?_
      refine nmV (fun V_13 e_V_13 => ?_)
      have h := h V_13 e_V_13
      refine go_iinc (q := 5) (y := 1) (al1 := [(3, aI (x3 + 1)), (5, aI x_9), (4, aI x_7), (0, aR 24 0), (1, aI x1), (2, aI x2)]) dX7_hour_102 rfl (by decide) (by decide) rfl ?_
      refine go_goto (tgt := 37) dX7_hour_105 (by decide) ?_
      refine go_sub (al1 := [(0, aR 24 0), (1, aI x1), (2, aI x2), (3, aI (x3 + 1))]) [3, 4, 5, 0] rfl ?_
      exact hk37 x1 x2 (x3 + 1)  V_13 h
    · have h := h.2 c_15
      refine go_aload_n (q := 2) dX7_hour_81 rfl rfl ?_
      refine go_iload_n (q := 5) dX7_hour_82 rfl rfl ?_
      refine go_iload (q := 1) dX7_hour_83 rfl ?_
      refine go_cVV (As := [aI x3, aI x_7]) (st := []) (r := 24) (i := 0) mv_X7_rains dX7_hour_85 ml_X7_135 (hr_Kp (Nat.le_refl d)) rfl rfl (mM (by decide) (by decide) rfl) rfl rfl (Nat.le_of_ble_eq_true rfl) h (fun V_14 h => ?_)
      refine go_goto (tgt := 102) dX7_hour_88 (by decide) ?_
      refine go_iinc (q := 5) (y := 1) (al1 := [(3, aI (x3 + 1)), (5, aI x_9), (4, aI x_7), (0, aR 24 0), (1, aI x1), (2, aI x2)]) dX7_hour_102 rfl (by decide) (by decide) rfl ?_
      refine go_goto (tgt := 37) dX7_hour_105 (by decide) ?_
      refine go_sub (al1 := [(0, aR 24 0), (1, aI x1), (2, aI x2), (3, aI (x3 + 1))]) [3, 4, 5, 0] rfl ?_
      exact hk37 x1 x2 (x3 + 1)  V_14 h
def wpX7_hour_0 (C : CT) (I37 : Int32 → Int32 → Int32 → Mem → Prop)   (V : Mem) (Q : Option AV → Mem → Prop) : Prop :=
  (cI C mX7_hourOfDay [aR 24 0] V (fun x_2 V_1 => (∃ j_3 : Nat, (11 + x_2) = nI j_3 ∧ j_3 < 1479 ∧ (∀ z_4 : Int32, z_4 = (V_1 25 0 j_3) → (cI C mX7_hourOfDay [aR 24 0] V_1 (fun x_6 V_5 => (∃ j_7 : Nat, (35 + x_6) = nI j_7 ∧ j_7 < 1479 ∧ (cV C mX7_falls [aR 24 0, aI z_4, aI (V_5 25 0 j_7)] V_5 (fun V_8 => (cI C mX7_slides [aR 24 0] V_8 (fun x_10 V_9 => I37 z_4 x_10 0 V_9)))))))))))
set_option maxRecDepth 10000 in
theorem okX7_hour_0 {d : Nat} {P : Option AV → Mem → Prop} {I37 : Int32 → Int32 → Int32 → Mem → Prop}     (V : Mem) (hk37 : ∀ (x1 : Int32) (x2 : Int32) (x3 : Int32), ∀ (V : Mem), I37 x1 x2 x3 V → Gq (Kp (d + 1) mX7_hour UM P) UM cX7_hour 6 RX7 37 [(0, aR 24 0), (1, aI x1), (2, aI x2), (3, aI x3)] [] V) (h : wpX7_hour_0 (Cl UM d) I37   V P) : Gq (Kp (d + 1) mX7_hour UM P) UM cX7_hour 6 RX7 0 [(0, aR 24 0)] [] V := by
  unfold wpX7_hour_0 at h
  refine go_aload_n (q := 0) dX7_hour_0 rfl rfl ?_
  refine go_getr fg_X7_9 dX7_hour_1 (mM (by decide) (by decide) rfl) ?_
  refine go_bipush (v := 11) dX7_hour_4 (by decide) ?_
  refine go_aload_n (q := 0) dX7_hour_6 rfl rfl ?_
  refine go_cVI (As := []) (st := [aI 11, aR 25 0]) (r := 24) (i := 0) mv_X7_hourOfDay dX7_hour_7 ml_X7_90 (hr_Kp (Nat.le_refl d)) rfl rfl (mM (by decide) (by decide) rfl) rfl rfl (Nat.le_of_ble_eq_true rfl) h (fun x_2 V_1 h => ?_)
  refine go_iadd dX7_hour_10 ?_
  obtain ⟨j_3, e_j_3, l_j_3, h⟩ := h
  refine go_iald (r := 25) (n := 1479) (j := j_3) rfl (by decide) dX7_hour_11 (mM (by decide) (by decide) rfl) e_j_3 l_j_3 ?_
  refine nmI (fun z_4 e_z_4 => ?_)
  have h := h z_4 e_z_4
  refine go_istore_n (al1 := [(1, aI z_4), (0, aR 24 0)]) dX7_hour_12 rfl (by decide) rfl ?_
  refine go_aload_n (q := 1) dX7_hour_13 rfl rfl ?_
  refine go_iload_n (q := 0) dX7_hour_14 rfl rfl ?_
  refine go_aload_n (q := 1) dX7_hour_15 rfl rfl ?_
  refine go_getr fg_X7_9 dX7_hour_16 (mM (by decide) (by decide) rfl) ?_
  refine go_bipush (v := 35) dX7_hour_19 (by decide) ?_
  refine go_aload_n (q := 1) dX7_hour_21 rfl rfl ?_
  refine go_cVI (As := []) (st := [aI 35, aR 25 0, aI z_4, aR 24 0]) (r := 24) (i := 0) mv_X7_hourOfDay dX7_hour_22 ml_X7_90 (hr_Kp (Nat.le_refl d)) rfl rfl (mM (by decide) (by decide) rfl) rfl rfl (Nat.le_of_ble_eq_true rfl) h (fun x_6 V_5 h => ?_)
  refine go_iadd dX7_hour_25 ?_
  obtain ⟨j_7, e_j_7, l_j_7, h⟩ := h
  refine go_iald (r := 25) (n := 1479) (j := j_7) rfl (by decide) dX7_hour_26 (mM (by decide) (by decide) rfl) e_j_7 l_j_7 ?_
  refine go_cVV (As := [aI z_4, aI (V_5 25 0 j_7)]) (st := []) (r := 24) (i := 0) mv_X7_falls dX7_hour_27 ml_X7_146 (hr_Kp (Nat.le_refl d)) rfl rfl (mM (by decide) (by decide) rfl) rfl rfl (Nat.le_of_ble_eq_true rfl) h (fun V_8 h => ?_)
  refine go_aload_n (q := 1) dX7_hour_30 rfl rfl ?_
  refine go_cVI (As := []) (st := []) (r := 24) (i := 0) mv_X7_slides dX7_hour_31 ml_X7_149 (hr_Kp (Nat.le_refl d)) rfl rfl (mM (by decide) (by decide) rfl) rfl rfl (Nat.le_of_ble_eq_true rfl) h (fun x_10 V_9 h => ?_)
  refine go_istore_n (al1 := [(2, aI x_10), (1, aI z_4), (0, aR 24 0)]) dX7_hour_34 rfl (by decide) rfl ?_
  refine go_iconst (v := 0) dX7_hour_35 (by decide) ?_
  refine go_istore_n (al1 := [(3, aI 0), (2, aI x_10), (1, aI z_4), (0, aR 24 0)]) dX7_hour_36 rfl (by decide) rfl ?_
  refine go_sub (al1 := [(0, aR 24 0), (1, aI z_4), (2, aI x_10), (3, aI 0)]) [3, 2, 1, 0] rfl ?_
  exact hk37 z_4 x_10 0  V_9 h
theorem clX7_hour {d : Nat} {P : Option AV → Mem → Prop} {I37 : Int32 → Int32 → Int32 → Mem → Prop}    (V : Mem) (hk37 : ∀ (x1 : Int32) (x2 : Int32) (x3 : Int32), ∀ (V : Mem), I37 x1 x2 x3 V → Gq (Kp (d + 1) mX7_hour UM P) UM cX7_hour 6 RX7 37 [(0, aR 24 0), (1, aI x1), (2, aI x2), (3, aI x3)] [] V) (h : wpX7_hour_0 (Cl UM d) I37   V P) : Cl UM (d + 1) mX7_hour [aR 24 0] V P :=
  cl_of [(0, aR 24 0)] (by decide) (fun _ => Nat.le_of_ble_eq_true rfl) (fun _ => rfl) (okX7_hour_0    V hk37 h)
theorem dX7_hours_0 : decode cX7_hours 0 = .ok (.iconst 0, 1) := by decide +kernel
theorem dX7_hours_1 : decode cX7_hours 1 = .ok (.istore_n 2, 1) := by decide +kernel
theorem dX7_hours_2 : decode cX7_hours 2 = .ok (.iconst 0, 1) := by decide +kernel
theorem dX7_hours_3 : decode cX7_hours 3 = .ok (.istore_n 3, 1) := by decide +kernel
theorem dX7_hours_4 : decode cX7_hours 4 = .ok (.iload_n 3, 1) := by decide +kernel
theorem dX7_hours_5 : decode cX7_hours 5 = .ok (.iload_n 1, 1) := by decide +kernel
theorem dX7_hours_6 : decode cX7_hours 6 = .ok (.if_icmp .ge 16, 3) := by decide +kernel
theorem dX7_hours_9 : decode cX7_hours 9 = .ok (.iload_n 2, 1) := by decide +kernel
theorem dX7_hours_10 : decode cX7_hours 10 = .ok (.aload_n 0, 1) := by decide +kernel
theorem dX7_hours_11 : decode cX7_hours 11 = .ok (.invokevirtual 152, 3) := by decide +kernel
theorem dX7_hours_14 : decode cX7_hours 14 = .ok (.iadd, 1) := by decide +kernel
theorem dX7_hours_15 : decode cX7_hours 15 = .ok (.istore_n 2, 1) := by decide +kernel
theorem dX7_hours_16 : decode cX7_hours 16 = .ok (.iinc 3 1, 3) := by decide +kernel
theorem dX7_hours_19 : decode cX7_hours 19 = .ok (.goto (-15), 3) := by decide +kernel
theorem dX7_hours_22 : decode cX7_hours 22 = .ok (.iload_n 2, 1) := by decide +kernel
theorem dX7_hours_23 : decode cX7_hours 23 = .ok (.ireturn, 1) := by decide +kernel
def wpX7_hours_4 (C : CT) (I4 : Int32 → Int32 → Int32 → Mem → Prop)  (x1 : Int32) (x2 : Int32) (x3 : Int32) (V : Mem) (Q : Option AV → Mem → Prop) : Prop :=
  ((x1 ≤ x3 → Q (some (aI x2)) V) ∧ (¬ x1 ≤ x3 → (cI C mX7_hour [aR 24 0] V (fun x_2 V_1 => (∀ z_3 : Int32, z_3 = (x2 + x_2) → I4 x1 z_3 (x3 + 1) V_1)))))
set_option maxRecDepth 10000 in
theorem okX7_hours_4 {d : Nat} {P : Option AV → Mem → Prop} {I4 : Int32 → Int32 → Int32 → Mem → Prop}   (x1 : Int32) (x2 : Int32) (x3 : Int32)  (V : Mem) (hk4 : ∀ (x1 : Int32) (x2 : Int32) (x3 : Int32), ∀ (V : Mem), I4 x1 x2 x3 V → Gq (Kp (d + 1) mX7_hours UM P) UM cX7_hours 4 RX7 4 [(0, aR 24 0), (1, aI x1), (2, aI x2), (3, aI x3)] [] V) (h : wpX7_hours_4 (Cl UM d) I4  x1 x2 x3 V P) : Gq (Kp (d + 1) mX7_hours UM P) UM cX7_hours 4 RX7 4 [(0, aR 24 0), (1, aI x1), (2, aI x2), (3, aI x3)] [] V := by
  unfold wpX7_hours_4 at h
  refine go_iload_n (q := 3) dX7_hours_4 rfl rfl ?_
  refine go_iload_n (q := 1) dX7_hours_5 rfl rfl ?_
  refine go_icmp_ge (tgt := 22) dX7_hours_6 (by decide) (fun c_4 => ?_) (fun c_4 => ?_)
  · have h := h.1 c_4
    refine go_iload_n (q := 2) dX7_hours_22 rfl rfl ?_
    exact go_iret rfl dX7_hours_23 h
  · have h := h.2 c_4
    refine go_iload_n (q := 2) dX7_hours_9 rfl rfl ?_
    refine go_aload_n (q := 0) dX7_hours_10 rfl rfl ?_
    refine go_cVI (As := []) (st := [aI x2]) (r := 24) (i := 0) mv_X7_hour dX7_hours_11 ml_X7_152 (hr_Kp (Nat.le_refl d)) rfl rfl (mM (by decide) (by decide) rfl) rfl rfl (Nat.le_of_ble_eq_true rfl) h (fun x_2 V_1 h => ?_)
    refine go_iadd dX7_hours_14 ?_
    refine nmI (fun z_3 e_z_3 => ?_)
    have h := h z_3 e_z_3
    refine go_istore_n (al1 := [(2, aI z_3), (0, aR 24 0), (1, aI x1), (3, aI x3)]) dX7_hours_15 rfl (by decide) rfl ?_
    refine go_iinc (q := 3) (y := 1) (al1 := [(3, aI (x3 + 1)), (2, aI z_3), (0, aR 24 0), (1, aI x1)]) dX7_hours_16 rfl (by decide) (by decide) rfl ?_
    refine go_goto (tgt := 4) dX7_hours_19 (by decide) ?_
    refine go_sub (al1 := [(0, aR 24 0), (1, aI x1), (2, aI z_3), (3, aI (x3 + 1))]) [2, 3, 1, 0] rfl ?_
    exact hk4 x1 z_3 (x3 + 1)  V_1 h
def wpX7_hours_0 (C : CT) (I4 : Int32 → Int32 → Int32 → Mem → Prop)  (x1 : Int32) (V : Mem) (Q : Option AV → Mem → Prop) : Prop :=
  I4 x1 0 0 V
set_option maxRecDepth 10000 in
theorem okX7_hours_0 {d : Nat} {P : Option AV → Mem → Prop} {I4 : Int32 → Int32 → Int32 → Mem → Prop}   (x1 : Int32)  (V : Mem) (hk4 : ∀ (x1 : Int32) (x2 : Int32) (x3 : Int32), ∀ (V : Mem), I4 x1 x2 x3 V → Gq (Kp (d + 1) mX7_hours UM P) UM cX7_hours 4 RX7 4 [(0, aR 24 0), (1, aI x1), (2, aI x2), (3, aI x3)] [] V) (h : wpX7_hours_0 (Cl UM d) I4  x1 V P) : Gq (Kp (d + 1) mX7_hours UM P) UM cX7_hours 4 RX7 0 [(0, aR 24 0), (1, aI x1)] [] V := by
  unfold wpX7_hours_0 at h
  refine go_iconst (v := 0) dX7_hours_0 (by decide) ?_
  refine go_istore_n (al1 := [(2, aI 0), (0, aR 24 0), (1, aI x1)]) dX7_hours_1 rfl (by decide) rfl ?_
  refine go_iconst (v := 0) dX7_hours_2 (by decide) ?_
  refine go_istore_n (al1 := [(3, aI 0), (2, aI 0), (0, aR 24 0), (1, aI x1)]) dX7_hours_3 rfl (by decide) rfl ?_
  refine go_sub (al1 := [(0, aR 24 0), (1, aI x1), (2, aI 0), (3, aI 0)]) [2, 3, 1, 0] rfl ?_
  exact hk4 x1 0 0  V h
theorem clX7_hours {d : Nat} {P : Option AV → Mem → Prop} {I4 : Int32 → Int32 → Int32 → Mem → Prop}   (x1 : Int32) (V : Mem) (hk4 : ∀ (x1 : Int32) (x2 : Int32) (x3 : Int32), ∀ (V : Mem), I4 x1 x2 x3 V → Gq (Kp (d + 1) mX7_hours UM P) UM cX7_hours 4 RX7 4 [(0, aR 24 0), (1, aI x1), (2, aI x2), (3, aI x3)] [] V) (h : wpX7_hours_0 (Cl UM d) I4  x1 V P) : Cl UM (d + 1) mX7_hours [aR 24 0, aI x1] V P :=
  cl_of [(0, aR 24 0), (1, aI x1)] (by decide) (fun _ => Nat.le_of_ble_eq_true rfl) (fun _ => rfl) (okX7_hours_0   x1 V hk4 h)
theorem dX7_run_0 : decode cX7_run 0 = .ok (.iload_n 1, 1) := by decide +kernel
theorem dX7_run_1 : decode cX7_run 1 = .ok (.iconst 1, 1) := by decide +kernel
theorem dX7_run_2 : decode cX7_run 2 = .ok (.sipush 200, 3) := by decide +kernel
theorem dX7_run_5 : decode cX7_run 5 = .ok (.invokestatic 76, 3) := by decide +kernel
theorem dX7_run_8 : decode cX7_run 8 = .ok (.ifCond .eq 25, 3) := by decide +kernel
theorem dX7_run_11 : decode cX7_run 11 = .ok (.aload_n 0, 1) := by decide +kernel
theorem dX7_run_12 : decode cX7_run 12 = .ok (.sipush 9999, 3) := by decide +kernel
theorem dX7_run_15 : decode cX7_run 15 = .ok (.aload_n 0, 1) := by decide +kernel
theorem dX7_run_16 : decode cX7_run 16 = .ok (.getfield 9, 3) := by decide +kernel
theorem dX7_run_19 : decode cX7_run 19 = .ok (.iconst 2, 1) := by decide +kernel
theorem dX7_run_20 : decode cX7_run 20 = .ok (.iaload, 1) := by decide +kernel
theorem dX7_run_21 : decode cX7_run 21 = .ok (.isub, 1) := by decide +kernel
theorem dX7_run_22 : decode cX7_run 22 = .ok (.iconst 0, 1) := by decide +kernel
theorem dX7_run_23 : decode cX7_run 23 = .ok (.iload_n 1, 1) := by decide +kernel
theorem dX7_run_24 : decode cX7_run 24 = .ok (.invokestatic 104, 3) := by decide +kernel
theorem dX7_run_27 : decode cX7_run 27 = .ok (.invokevirtual 155, 3) := by decide +kernel
theorem dX7_run_30 : decode cX7_run 30 = .ok (.goto 5, 3) := by decide +kernel
theorem dX7_run_33 : decode cX7_run 33 = .ok (.ldc 84, 2) := by decide +kernel
theorem dX7_run_35 : decode cX7_run 35 = .ok (.ireturn, 1) := by decide +kernel
def wpX7_run_0 (C : CT)   (x1 : Int32) (V : Mem) (Q : Option AV → Mem → Prop) : Prop :=
  (cI C mX7_in [aI x1, aI 1, aI 200] V (fun x_2 V_1 => ((x_2 = 0 → Q (some (aI (-1000000001))) V_1) ∧ (¬ x_2 = 0 → (cI C mX7_within [aI (9999 - (V_1 25 0 2)), aI 0, aI x1] V_1 (fun x_4 V_3 => (cI C mX7_hours [aR 24 0, aI x_4] V_3 (fun x_6 V_5 => Q (some (aI x_6)) V_5))))))))
set_option maxRecDepth 10000 in
theorem okX7_run_0 {d : Nat} {P : Option AV → Mem → Prop}    (x1 : Int32)  (V : Mem)  (h : wpX7_run_0 (Cl UM d)   x1 V P) : Gq (Kp (d + 1) mX7_run UM P) UM cX7_run 2 RX7 0 [(0, aR 24 0), (1, aI x1)] [] V := by
  unfold wpX7_run_0 at h
  refine go_iload_n (q := 1) dX7_run_0 rfl rfl ?_
  refine go_iconst (v := 1) dX7_run_1 (by decide) ?_
  refine go_sipush (v := 200) dX7_run_2 (by decide) ?_
  refine go_cSI (As := [aI x1, aI 1, aI 200]) (st := []) ms_X7_in dX7_run_5 ml_X7_76 (hr_Kp (Nat.le_refl d)) rfl rfl (Nat.le_of_ble_eq_true rfl) h (fun x_2 V_1 h => ?_)
  refine go_if_eq (tgt := 33) dX7_run_8 (by decide) (fun c_7 => ?_) (fun c_7 => ?_)
  · have h := h.1 c_7
    refine go_ldc dX7_run_33 ct_X7_84 ?_
    exact go_iret rfl dX7_run_35 h
  · have h := h.2 c_7
    refine go_aload_n (q := 0) dX7_run_11 rfl rfl ?_
    refine go_sipush (v := 9999) dX7_run_12 (by decide) ?_
    refine go_aload_n (q := 0) dX7_run_15 rfl rfl ?_
    refine go_getr fg_X7_9 dX7_run_16 (mM (by decide) (by decide) rfl) ?_
    refine go_iconst (v := 2) dX7_run_19 (by decide) ?_
    refine go_iald (r := 25) (n := 1479) (j := 2) rfl (by decide) dX7_run_20 (mM (by decide) (by decide) rfl) (by decide) (by decide) ?_
    refine go_isub dX7_run_21 ?_
    refine go_iconst (v := 0) dX7_run_22 (by decide) ?_
    refine go_iload_n (q := 1) dX7_run_23 rfl rfl ?_
    refine go_cSI (As := [aI (9999 - (V_1 25 0 2)), aI 0, aI x1]) (st := [aR 24 0]) ms_X7_within dX7_run_24 ml_X7_104 (hr_Kp (Nat.le_refl d)) rfl rfl (Nat.le_of_ble_eq_true rfl) h (fun x_4 V_3 h => ?_)
    refine go_cVI (As := [aI x_4]) (st := []) (r := 24) (i := 0) mv_X7_hours dX7_run_27 ml_X7_155 (hr_Kp (Nat.le_refl d)) rfl rfl (mM (by decide) (by decide) rfl) rfl rfl (Nat.le_of_ble_eq_true rfl) h (fun x_6 V_5 h => ?_)
    refine go_goto (tgt := 35) dX7_run_30 (by decide) ?_
    exact go_iret rfl dX7_run_35 h
theorem clX7_run {d : Nat} {P : Option AV → Mem → Prop}    (x1 : Int32) (V : Mem)  (h : wpX7_run_0 (Cl UM d)   x1 V P) : Cl UM (d + 1) mX7_run [aR 24 0, aI x1] V P :=
  cl_of [(0, aR 24 0), (1, aI x1)] (by decide) (fun _ => Nat.le_of_ble_eq_true rfl) (fun _ => rfl) (okX7_run_0   x1 V  h)
theorem dX7_sumOf_0 : decode cX7_sumOf 0 = .ok (.iconst 0, 1) := by decide +kernel
theorem dX7_sumOf_1 : decode cX7_sumOf 1 = .ok (.istore_n 2, 1) := by decide +kernel
theorem dX7_sumOf_2 : decode cX7_sumOf 2 = .ok (.iconst 0, 1) := by decide +kernel
theorem dX7_sumOf_3 : decode cX7_sumOf 3 = .ok (.istore_n 3, 1) := by decide +kernel
theorem dX7_sumOf_4 : decode cX7_sumOf 4 = .ok (.iload_n 3, 1) := by decide +kernel
theorem dX7_sumOf_5 : decode cX7_sumOf 5 = .ok (.aload_n 0, 1) := by decide +kernel
theorem dX7_sumOf_6 : decode cX7_sumOf 6 = .ok (.getfield 9, 3) := by decide +kernel
theorem dX7_sumOf_9 : decode cX7_sumOf 9 = .ok (.iconst 1, 1) := by decide +kernel
theorem dX7_sumOf_10 : decode cX7_sumOf 10 = .ok (.iaload, 1) := by decide +kernel
theorem dX7_sumOf_11 : decode cX7_sumOf 11 = .ok (.if_icmp .ge 18, 3) := by decide +kernel
theorem dX7_sumOf_14 : decode cX7_sumOf 14 = .ok (.iload_n 2, 1) := by decide +kernel
theorem dX7_sumOf_15 : decode cX7_sumOf 15 = .ok (.aload_n 0, 1) := by decide +kernel
theorem dX7_sumOf_16 : decode cX7_sumOf 16 = .ok (.iload_n 3, 1) := by decide +kernel
theorem dX7_sumOf_17 : decode cX7_sumOf 17 = .ok (.iload_n 1, 1) := by decide +kernel
theorem dX7_sumOf_18 : decode cX7_sumOf 18 = .ok (.invokevirtual 94, 3) := by decide +kernel
theorem dX7_sumOf_21 : decode cX7_sumOf 21 = .ok (.iadd, 1) := by decide +kernel
theorem dX7_sumOf_22 : decode cX7_sumOf 22 = .ok (.istore_n 2, 1) := by decide +kernel
theorem dX7_sumOf_23 : decode cX7_sumOf 23 = .ok (.iinc 3 1, 3) := by decide +kernel
theorem dX7_sumOf_26 : decode cX7_sumOf 26 = .ok (.goto (-22), 3) := by decide +kernel
theorem dX7_sumOf_29 : decode cX7_sumOf 29 = .ok (.iload_n 2, 1) := by decide +kernel
theorem dX7_sumOf_30 : decode cX7_sumOf 30 = .ok (.ireturn, 1) := by decide +kernel
def wpX7_sumOf_4 (C : CT) (I4 : Int32 → Int32 → Int32 → Mem → Prop)  (x1 : Int32) (x2 : Int32) (x3 : Int32) (V : Mem) (Q : Option AV → Mem → Prop) : Prop :=
  (((V 25 0 1) ≤ x3 → Q (some (aI x2)) V) ∧ (¬ (V 25 0 1) ≤ x3 → (cI C mX7_of [aR 24 0, aI x3, aI x1] V (fun x_2 V_1 => (∀ z_3 : Int32, z_3 = (x2 + x_2) → I4 x1 z_3 (x3 + 1) V_1)))))
set_option maxRecDepth 10000 in
theorem okX7_sumOf_4 {d : Nat} {P : Option AV → Mem → Prop} {I4 : Int32 → Int32 → Int32 → Mem → Prop}   (x1 : Int32) (x2 : Int32) (x3 : Int32)  (V : Mem) (hk4 : ∀ (x1 : Int32) (x2 : Int32) (x3 : Int32), ∀ (V : Mem), I4 x1 x2 x3 V → Gq (Kp (d + 1) mX7_sumOf UM P) UM cX7_sumOf 4 RX7 4 [(0, aR 24 0), (1, aI x1), (2, aI x2), (3, aI x3)] [] V) (h : wpX7_sumOf_4 (Cl UM d) I4  x1 x2 x3 V P) : Gq (Kp (d + 1) mX7_sumOf UM P) UM cX7_sumOf 4 RX7 4 [(0, aR 24 0), (1, aI x1), (2, aI x2), (3, aI x3)] [] V := by
  unfold wpX7_sumOf_4 at h
  refine go_iload_n (q := 3) dX7_sumOf_4 rfl rfl ?_
  refine go_aload_n (q := 0) dX7_sumOf_5 rfl rfl ?_
  refine go_getr fg_X7_9 dX7_sumOf_6 (mM (by decide) (by decide) rfl) ?_
  refine go_iconst (v := 1) dX7_sumOf_9 (by decide) ?_
  refine go_iald (r := 25) (n := 1479) (j := 1) rfl (by decide) dX7_sumOf_10 (mM (by decide) (by decide) rfl) (by decide) (by decide) ?_
  refine go_icmp_ge (tgt := 29) dX7_sumOf_11 (by decide) (fun c_4 => ?_) (fun c_4 => ?_)
  · have h := h.1 c_4
    refine go_iload_n (q := 2) dX7_sumOf_29 rfl rfl ?_
    exact go_iret rfl dX7_sumOf_30 h
  · have h := h.2 c_4
    refine go_iload_n (q := 2) dX7_sumOf_14 rfl rfl ?_
    refine go_aload_n (q := 0) dX7_sumOf_15 rfl rfl ?_
    refine go_iload_n (q := 3) dX7_sumOf_16 rfl rfl ?_
    refine go_iload_n (q := 1) dX7_sumOf_17 rfl rfl ?_
    refine go_cVI (As := [aI x3, aI x1]) (st := [aI x2]) (r := 24) (i := 0) mv_X7_of dX7_sumOf_18 ml_X7_94 (hr_Kp (Nat.le_refl d)) rfl rfl (mM (by decide) (by decide) rfl) rfl rfl (Nat.le_of_ble_eq_true rfl) h (fun x_2 V_1 h => ?_)
    refine go_iadd dX7_sumOf_21 ?_
    refine nmI (fun z_3 e_z_3 => ?_)
    have h := h z_3 e_z_3
    refine go_istore_n (al1 := [(2, aI z_3), (0, aR 24 0), (1, aI x1), (3, aI x3)]) dX7_sumOf_22 rfl (by decide) rfl ?_
    refine go_iinc (q := 3) (y := 1) (al1 := [(3, aI (x3 + 1)), (2, aI z_3), (0, aR 24 0), (1, aI x1)]) dX7_sumOf_23 rfl (by decide) (by decide) rfl ?_
    refine go_goto (tgt := 4) dX7_sumOf_26 (by decide) ?_
    refine go_sub (al1 := [(0, aR 24 0), (1, aI x1), (2, aI z_3), (3, aI (x3 + 1))]) [2, 3, 1, 0] rfl ?_
    exact hk4 x1 z_3 (x3 + 1)  V_1 h
def wpX7_sumOf_0 (C : CT) (I4 : Int32 → Int32 → Int32 → Mem → Prop)  (x1 : Int32) (V : Mem) (Q : Option AV → Mem → Prop) : Prop :=
  I4 x1 0 0 V
set_option maxRecDepth 10000 in
theorem okX7_sumOf_0 {d : Nat} {P : Option AV → Mem → Prop} {I4 : Int32 → Int32 → Int32 → Mem → Prop}   (x1 : Int32)  (V : Mem) (hk4 : ∀ (x1 : Int32) (x2 : Int32) (x3 : Int32), ∀ (V : Mem), I4 x1 x2 x3 V → Gq (Kp (d + 1) mX7_sumOf UM P) UM cX7_sumOf 4 RX7 4 [(0, aR 24 0), (1, aI x1), (2, aI x2), (3, aI x3)] [] V) (h : wpX7_sumOf_0 (Cl UM d) I4  x1 V P) : Gq (Kp (d + 1) mX7_sumOf UM P) UM cX7_sumOf 4 RX7 0 [(0, aR 24 0), (1, aI x1)] [] V := by
  unfold wpX7_sumOf_0 at h
  refine go_iconst (v := 0) dX7_sumOf_0 (by decide) ?_
  refine go_istore_n (al1 := [(2, aI 0), (0, aR 24 0), (1, aI x1)]) dX7_sumOf_1 rfl (by decide) rfl ?_
  refine go_iconst (v := 0) dX7_sumOf_2 (by decide) ?_
  refine go_istore_n (al1 := [(3, aI 0), (2, aI 0), (0, aR 24 0), (1, aI x1)]) dX7_sumOf_3 rfl (by decide) rfl ?_
  refine go_sub (al1 := [(0, aR 24 0), (1, aI x1), (2, aI 0), (3, aI 0)]) [2, 3, 1, 0] rfl ?_
  exact hk4 x1 0 0  V h
theorem clX7_sumOf {d : Nat} {P : Option AV → Mem → Prop} {I4 : Int32 → Int32 → Int32 → Mem → Prop}   (x1 : Int32) (V : Mem) (hk4 : ∀ (x1 : Int32) (x2 : Int32) (x3 : Int32), ∀ (V : Mem), I4 x1 x2 x3 V → Gq (Kp (d + 1) mX7_sumOf UM P) UM cX7_sumOf 4 RX7 4 [(0, aR 24 0), (1, aI x1), (2, aI x2), (3, aI x3)] [] V) (h : wpX7_sumOf_0 (Cl UM d) I4  x1 V P) : Cl UM (d + 1) mX7_sumOf [aR 24 0, aI x1] V P :=
  cl_of [(0, aR 24 0), (1, aI x1)] (by decide) (fun _ => Nat.le_of_ble_eq_true rfl) (fun _ => rfl) (okX7_sumOf_0   x1 V hk4 h)
theorem dX7_kilos_0 : decode cX7_kilos 0 = .ok (.iload_n 1, 1) := by decide +kernel
theorem dX7_kilos_1 : decode cX7_kilos 1 = .ok (.iconst 0, 1) := by decide +kernel
theorem dX7_kilos_2 : decode cX7_kilos 2 = .ok (.bipush 6, 2) := by decide +kernel
theorem dX7_kilos_4 : decode cX7_kilos 4 = .ok (.invokestatic 76, 3) := by decide +kernel
theorem dX7_kilos_7 : decode cX7_kilos 7 = .ok (.ifCond .ne 6, 3) := by decide +kernel
theorem dX7_kilos_10 : decode cX7_kilos 10 = .ok (.ldc 84, 2) := by decide +kernel
theorem dX7_kilos_12 : decode cX7_kilos 12 = .ok (.ireturn, 1) := by decide +kernel
theorem dX7_kilos_13 : decode cX7_kilos 13 = .ok (.iload_n 1, 1) := by decide +kernel
theorem dX7_kilos_14 : decode cX7_kilos 14 = .ok (.bipush 6, 2) := by decide +kernel
theorem dX7_kilos_16 : decode cX7_kilos 16 = .ok (.if_icmp .ge 14, 3) := by decide +kernel
theorem dX7_kilos_19 : decode cX7_kilos 19 = .ok (.aload_n 0, 1) := by decide +kernel
theorem dX7_kilos_20 : decode cX7_kilos 20 = .ok (.getfield 9, 3) := by decide +kernel
theorem dX7_kilos_23 : decode cX7_kilos 23 = .ok (.iconst 4, 1) := by decide +kernel
theorem dX7_kilos_24 : decode cX7_kilos 24 = .ok (.iload_n 1, 1) := by decide +kernel
theorem dX7_kilos_25 : decode cX7_kilos 25 = .ok (.iadd, 1) := by decide +kernel
theorem dX7_kilos_26 : decode cX7_kilos 26 = .ok (.iaload, 1) := by decide +kernel
theorem dX7_kilos_27 : decode cX7_kilos 27 = .ok (.goto 52, 3) := by decide +kernel
theorem dX7_kilos_30 : decode cX7_kilos 30 = .ok (.aload_n 0, 1) := by decide +kernel
theorem dX7_kilos_31 : decode cX7_kilos 31 = .ok (.iconst 4, 1) := by decide +kernel
theorem dX7_kilos_32 : decode cX7_kilos 32 = .ok (.invokevirtual 158, 3) := by decide +kernel
theorem dX7_kilos_35 : decode cX7_kilos 35 = .ok (.aload_n 0, 1) := by decide +kernel
theorem dX7_kilos_36 : decode cX7_kilos 36 = .ok (.iconst 5, 1) := by decide +kernel
theorem dX7_kilos_37 : decode cX7_kilos 37 = .ok (.invokevirtual 158, 3) := by decide +kernel
theorem dX7_kilos_40 : decode cX7_kilos 40 = .ok (.iadd, 1) := by decide +kernel
theorem dX7_kilos_41 : decode cX7_kilos 41 = .ok (.aload_n 0, 1) := by decide +kernel
theorem dX7_kilos_42 : decode cX7_kilos 42 = .ok (.getfield 9, 3) := by decide +kernel
theorem dX7_kilos_45 : decode cX7_kilos 45 = .ok (.iconst 4, 1) := by decide +kernel
theorem dX7_kilos_46 : decode cX7_kilos 46 = .ok (.iaload, 1) := by decide +kernel
theorem dX7_kilos_47 : decode cX7_kilos 47 = .ok (.iadd, 1) := by decide +kernel
theorem dX7_kilos_48 : decode cX7_kilos 48 = .ok (.aload_n 0, 1) := by decide +kernel
theorem dX7_kilos_49 : decode cX7_kilos 49 = .ok (.getfield 9, 3) := by decide +kernel
theorem dX7_kilos_52 : decode cX7_kilos 52 = .ok (.iconst 5, 1) := by decide +kernel
theorem dX7_kilos_53 : decode cX7_kilos 53 = .ok (.iaload, 1) := by decide +kernel
theorem dX7_kilos_54 : decode cX7_kilos 54 = .ok (.iadd, 1) := by decide +kernel
theorem dX7_kilos_55 : decode cX7_kilos 55 = .ok (.aload_n 0, 1) := by decide +kernel
theorem dX7_kilos_56 : decode cX7_kilos 56 = .ok (.getfield 9, 3) := by decide +kernel
theorem dX7_kilos_59 : decode cX7_kilos 59 = .ok (.bipush 6, 2) := by decide +kernel
theorem dX7_kilos_61 : decode cX7_kilos 61 = .ok (.iaload, 1) := by decide +kernel
theorem dX7_kilos_62 : decode cX7_kilos 62 = .ok (.iadd, 1) := by decide +kernel
theorem dX7_kilos_63 : decode cX7_kilos 63 = .ok (.aload_n 0, 1) := by decide +kernel
theorem dX7_kilos_64 : decode cX7_kilos 64 = .ok (.getfield 9, 3) := by decide +kernel
theorem dX7_kilos_67 : decode cX7_kilos 67 = .ok (.bipush 7, 2) := by decide +kernel
theorem dX7_kilos_69 : decode cX7_kilos 69 = .ok (.iaload, 1) := by decide +kernel
theorem dX7_kilos_70 : decode cX7_kilos 70 = .ok (.iadd, 1) := by decide +kernel
theorem dX7_kilos_71 : decode cX7_kilos 71 = .ok (.aload_n 0, 1) := by decide +kernel
theorem dX7_kilos_72 : decode cX7_kilos 72 = .ok (.getfield 9, 3) := by decide +kernel
theorem dX7_kilos_75 : decode cX7_kilos 75 = .ok (.bipush 9, 2) := by decide +kernel
theorem dX7_kilos_77 : decode cX7_kilos 77 = .ok (.iaload, 1) := by decide +kernel
theorem dX7_kilos_78 : decode cX7_kilos 78 = .ok (.iadd, 1) := by decide +kernel
theorem dX7_kilos_79 : decode cX7_kilos 79 = .ok (.ireturn, 1) := by decide +kernel
def wpX7_kilos_0 (C : CT)   (x1 : Int32) (V : Mem) (Q : Option AV → Mem → Prop) : Prop :=
  (cI C mX7_in [aI x1, aI 0, aI 6] V (fun x_2 V_1 => ((¬ x_2 = 0 → ((6 ≤ x1 → (cI C mX7_sumOf [aR 24 0, aI 4] V_1 (fun x_4 V_3 => (cI C mX7_sumOf [aR 24 0, aI 5] V_3 (fun x_6 V_5 => Q (some (aI ((((((x_4 + x_6) + (V_5 25 0 4)) + (V_5 25 0 5)) + (V_5 25 0 6)) + (V_5 25 0 7)) + (V_5 25 0 9)))) V_5))))) ∧ (¬ 6 ≤ x1 → (∃ j_7 : Nat, (4 + x1) = nI j_7 ∧ j_7 < 1479 ∧ Q (some (aI (V_1 25 0 j_7))) V_1)))) ∧ (x_2 = 0 → Q (some (aI (-1000000001))) V_1))))
set_option maxRecDepth 10000 in
theorem okX7_kilos_0 {d : Nat} {P : Option AV → Mem → Prop}    (x1 : Int32)  (V : Mem)  (h : wpX7_kilos_0 (Cl UM d)   x1 V P) : Gq (Kp (d + 1) mX7_kilos UM P) UM cX7_kilos 2 RX7 0 [(0, aR 24 0), (1, aI x1)] [] V := by
  unfold wpX7_kilos_0 at h
  refine go_iload_n (q := 1) dX7_kilos_0 rfl rfl ?_
  refine go_iconst (v := 0) dX7_kilos_1 (by decide) ?_
  refine go_bipush (v := 6) dX7_kilos_2 (by decide) ?_
  refine go_cSI (As := [aI x1, aI 0, aI 6]) (st := []) ms_X7_in dX7_kilos_4 ml_X7_76 (hr_Kp (Nat.le_refl d)) rfl rfl (Nat.le_of_ble_eq_true rfl) h (fun x_2 V_1 h => ?_)
  refine go_if_ne (tgt := 13) dX7_kilos_7 (by decide) (fun c_9 => ?_) (fun c_9 => ?_)
  · have h := h.1 c_9
    refine go_iload_n (q := 1) dX7_kilos_13 rfl rfl ?_
    refine go_bipush (v := 6) dX7_kilos_14 (by decide) ?_
    refine go_icmp_ge (tgt := 30) dX7_kilos_16 (by decide) (fun c_8 => ?_) (fun c_8 => ?_)
    · have h := h.1 c_8
      refine go_aload_n (q := 0) dX7_kilos_30 rfl rfl ?_
      refine go_iconst (v := 4) dX7_kilos_31 (by decide) ?_
      refine go_cVI (As := [aI 4]) (st := []) (r := 24) (i := 0) mv_X7_sumOf dX7_kilos_32 ml_X7_158 (hr_Kp (Nat.le_refl d)) rfl rfl (mM (by decide) (by decide) rfl) rfl rfl (Nat.le_of_ble_eq_true rfl) h (fun x_4 V_3 h => ?_)
      refine go_aload_n (q := 0) dX7_kilos_35 rfl rfl ?_
      refine go_iconst (v := 5) dX7_kilos_36 (by decide) ?_
      refine go_cVI (As := [aI 5]) (st := [aI x_4]) (r := 24) (i := 0) mv_X7_sumOf dX7_kilos_37 ml_X7_158 (hr_Kp (Nat.le_refl d)) rfl rfl (mM (by decide) (by decide) rfl) rfl rfl (Nat.le_of_ble_eq_true rfl) h (fun x_6 V_5 h => ?_)
      refine go_iadd dX7_kilos_40 ?_
      refine go_aload_n (q := 0) dX7_kilos_41 rfl rfl ?_
      refine go_getr fg_X7_9 dX7_kilos_42 (mM (by decide) (by decide) rfl) ?_
      refine go_iconst (v := 4) dX7_kilos_45 (by decide) ?_
      refine go_iald (r := 25) (n := 1479) (j := 4) rfl (by decide) dX7_kilos_46 (mM (by decide) (by decide) rfl) (by decide) (by decide) ?_
      refine go_iadd dX7_kilos_47 ?_
      refine go_aload_n (q := 0) dX7_kilos_48 rfl rfl ?_
      refine go_getr fg_X7_9 dX7_kilos_49 (mM (by decide) (by decide) rfl) ?_
      refine go_iconst (v := 5) dX7_kilos_52 (by decide) ?_
      refine go_iald (r := 25) (n := 1479) (j := 5) rfl (by decide) dX7_kilos_53 (mM (by decide) (by decide) rfl) (by decide) (by decide) ?_
      refine go_iadd dX7_kilos_54 ?_
      refine go_aload_n (q := 0) dX7_kilos_55 rfl rfl ?_
      refine go_getr fg_X7_9 dX7_kilos_56 (mM (by decide) (by decide) rfl) ?_
      refine go_bipush (v := 6) dX7_kilos_59 (by decide) ?_
      refine go_iald (r := 25) (n := 1479) (j := 6) rfl (by decide) dX7_kilos_61 (mM (by decide) (by decide) rfl) (by decide) (by decide) ?_
      refine go_iadd dX7_kilos_62 ?_
      refine go_aload_n (q := 0) dX7_kilos_63 rfl rfl ?_
      refine go_getr fg_X7_9 dX7_kilos_64 (mM (by decide) (by decide) rfl) ?_
      refine go_bipush (v := 7) dX7_kilos_67 (by decide) ?_
      refine go_iald (r := 25) (n := 1479) (j := 7) rfl (by decide) dX7_kilos_69 (mM (by decide) (by decide) rfl) (by decide) (by decide) ?_
      refine go_iadd dX7_kilos_70 ?_
      refine go_aload_n (q := 0) dX7_kilos_71 rfl rfl ?_
      refine go_getr fg_X7_9 dX7_kilos_72 (mM (by decide) (by decide) rfl) ?_
      refine go_bipush (v := 9) dX7_kilos_75 (by decide) ?_
      refine go_iald (r := 25) (n := 1479) (j := 9) rfl (by decide) dX7_kilos_77 (mM (by decide) (by decide) rfl) (by decide) (by decide) ?_
      refine go_iadd dX7_kilos_78 ?_
      exact go_iret rfl dX7_kilos_79 h
    · have h := h.2 c_8
      refine go_aload_n (q := 0) dX7_kilos_19 rfl rfl ?_
      refine go_getr fg_X7_9 dX7_kilos_20 (mM (by decide) (by decide) rfl) ?_
      refine go_iconst (v := 4) dX7_kilos_23 (by decide) ?_
      refine go_iload_n (q := 1) dX7_kilos_24 rfl rfl ?_
      refine go_iadd dX7_kilos_25 ?_
      obtain ⟨j_7, e_j_7, l_j_7, h⟩ := h
      refine go_iald (r := 25) (n := 1479) (j := j_7) rfl (by decide) dX7_kilos_26 (mM (by decide) (by decide) rfl) e_j_7 l_j_7 ?_
      refine go_goto (tgt := 79) dX7_kilos_27 (by decide) ?_
      exact go_iret rfl dX7_kilos_79 h
  · have h := h.2 c_9
    refine go_ldc dX7_kilos_10 ct_X7_84 ?_
    exact go_iret rfl dX7_kilos_12 h
theorem clX7_kilos {d : Nat} {P : Option AV → Mem → Prop}    (x1 : Int32) (V : Mem)  (h : wpX7_kilos_0 (Cl UM d)   x1 V P) : Cl UM (d + 1) mX7_kilos [aR 24 0, aI x1] V P :=
  cl_of [(0, aR 24 0), (1, aI x1)] (by decide) (fun _ => Nat.le_of_ble_eq_true rfl) (fun _ => rfl) (okX7_kilos_0   x1 V  h)
theorem dX7_thinks_0 : decode cX7_thinks 0 = .ok (.iconst 0, 1) := by decide +kernel
theorem dX7_thinks_1 : decode cX7_thinks 1 = .ok (.istore_n 1, 1) := by decide +kernel
theorem dX7_thinks_2 : decode cX7_thinks 2 = .ok (.iload_n 1, 1) := by decide +kernel
theorem dX7_thinks_3 : decode cX7_thinks 3 = .ok (.bipush 107, 2) := by decide +kernel
theorem dX7_thinks_5 : decode cX7_thinks 5 = .ok (.if_icmp .ge 21, 3) := by decide +kernel
theorem dX7_thinks_8 : decode cX7_thinks 8 = .ok (.aload_n 0, 1) := by decide +kernel
theorem dX7_thinks_9 : decode cX7_thinks 9 = .ok (.getfield 19, 3) := by decide +kernel
theorem dX7_thinks_12 : decode cX7_thinks 12 = .ok (.iload_n 1, 1) := by decide +kernel
theorem dX7_thinks_13 : decode cX7_thinks 13 = .ok (.aload_n 0, 1) := by decide +kernel
theorem dX7_thinks_14 : decode cX7_thinks 14 = .ok (.getfield 9, 3) := by decide +kernel
theorem dX7_thinks_17 : decode cX7_thinks 17 = .ok (.iload_n 1, 1) := by decide +kernel
theorem dX7_thinks_18 : decode cX7_thinks 18 = .ok (.iaload, 1) := by decide +kernel
theorem dX7_thinks_19 : decode cX7_thinks 19 = .ok (.iastore, 1) := by decide +kernel
theorem dX7_thinks_20 : decode cX7_thinks 20 = .ok (.iinc 1 1, 3) := by decide +kernel
theorem dX7_thinks_23 : decode cX7_thinks 23 = .ok (.goto (-21), 3) := by decide +kernel
theorem dX7_thinks_26 : decode cX7_thinks 26 = .ok (.return_, 1) := by decide +kernel
def wpX7_thinks_2 (C : CT) (I2 : Int32 → Mem → Prop)  (x1 : Int32) (V : Mem) (Q : Option AV → Mem → Prop) : Prop :=
  ((107 ≤ x1 → Q none V) ∧ (¬ 107 ≤ x1 → (∃ j_1 : Nat, x1 = nI j_1 ∧ j_1 < 1479 ∧ (∃ j_2 : Nat, x1 = nI j_2 ∧ j_2 < 107 ∧ (∀ V_3 : Mem, V_3 = mu V 28 0 j_2 (V 25 0 j_1) → I2 (x1 + 1) V_3)))))
set_option maxRecDepth 10000 in
theorem okX7_thinks_2 {d : Nat} {P : Option AV → Mem → Prop} {I2 : Int32 → Mem → Prop}   (x1 : Int32)  (V : Mem) (hk2 : ∀ (x1 : Int32), ∀ (V : Mem), I2 x1 V → Gq (Kp (d + 1) mX7_thinks UM P) UM cX7_thinks 2 RX7 2 [(0, aR 24 0), (1, aI x1)] [] V) (h : wpX7_thinks_2 (Cl UM d) I2  x1 V P) : Gq (Kp (d + 1) mX7_thinks UM P) UM cX7_thinks 2 RX7 2 [(0, aR 24 0), (1, aI x1)] [] V := by
  unfold wpX7_thinks_2 at h
  refine go_iload_n (q := 1) dX7_thinks_2 rfl rfl ?_
  refine go_bipush (v := 107) dX7_thinks_3 (by decide) ?_
  refine go_icmp_ge (tgt := 26) dX7_thinks_5 (by decide) (fun c_4 => ?_) (fun c_4 => ?_)
  · have h := h.1 c_4
    exact go_vret rfl dX7_thinks_26 h
  · have h := h.2 c_4
    refine go_aload_n (q := 0) dX7_thinks_8 rfl rfl ?_
    refine go_getr fg_X7_19 dX7_thinks_9 (mM (by decide) (by decide) rfl) ?_
    refine go_iload_n (q := 1) dX7_thinks_12 rfl rfl ?_
    refine go_aload_n (q := 0) dX7_thinks_13 rfl rfl ?_
    refine go_getr fg_X7_9 dX7_thinks_14 (mM (by decide) (by decide) rfl) ?_
    refine go_iload_n (q := 1) dX7_thinks_17 rfl rfl ?_
    obtain ⟨j_1, e_j_1, l_j_1, h⟩ := h
    refine go_iald (r := 25) (n := 1479) (j := j_1) rfl (by decide) dX7_thinks_18 (mM (by decide) (by decide) rfl) e_j_1 l_j_1 ?_
    obtain ⟨j_2, e_j_2, l_j_2, h⟩ := h
    refine go_iast (r := 28) (n := 107) (j := j_2) rfl (by decide) dX7_thinks_19 (mM (by decide) (by decide) rfl) e_j_2 l_j_2 ?_
    refine nmV (fun V_3 e_V_3 => ?_)
    have h := h V_3 e_V_3
    refine go_iinc (q := 1) (y := 1) (al1 := [(1, aI (x1 + 1)), (0, aR 24 0)]) dX7_thinks_20 rfl (by decide) (by decide) rfl ?_
    refine go_goto (tgt := 2) dX7_thinks_23 (by decide) ?_
    refine go_sub (al1 := [(0, aR 24 0), (1, aI (x1 + 1))]) [1, 0] rfl ?_
    exact hk2 (x1 + 1)  V_3 h
def wpX7_thinks_0 (C : CT) (I2 : Int32 → Mem → Prop)   (V : Mem) (Q : Option AV → Mem → Prop) : Prop :=
  I2 0 V
set_option maxRecDepth 10000 in
theorem okX7_thinks_0 {d : Nat} {P : Option AV → Mem → Prop} {I2 : Int32 → Mem → Prop}     (V : Mem) (hk2 : ∀ (x1 : Int32), ∀ (V : Mem), I2 x1 V → Gq (Kp (d + 1) mX7_thinks UM P) UM cX7_thinks 2 RX7 2 [(0, aR 24 0), (1, aI x1)] [] V) (h : wpX7_thinks_0 (Cl UM d) I2   V P) : Gq (Kp (d + 1) mX7_thinks UM P) UM cX7_thinks 2 RX7 0 [(0, aR 24 0)] [] V := by
  unfold wpX7_thinks_0 at h
  refine go_iconst (v := 0) dX7_thinks_0 (by decide) ?_
  refine go_istore_n (al1 := [(1, aI 0), (0, aR 24 0)]) dX7_thinks_1 rfl (by decide) rfl ?_
  refine go_sub (al1 := [(0, aR 24 0), (1, aI 0)]) [1, 0] rfl ?_
  exact hk2 0  V h
theorem clX7_thinks {d : Nat} {P : Option AV → Mem → Prop} {I2 : Int32 → Mem → Prop}    (V : Mem) (hk2 : ∀ (x1 : Int32), ∀ (V : Mem), I2 x1 V → Gq (Kp (d + 1) mX7_thinks UM P) UM cX7_thinks 2 RX7 2 [(0, aR 24 0), (1, aI x1)] [] V) (h : wpX7_thinks_0 (Cl UM d) I2   V P) : Cl UM (d + 1) mX7_thinks [aR 24 0] V P :=
  cl_of [(0, aR 24 0)] (by decide) (fun _ => Nat.le_of_ble_eq_true rfl) (fun _ => rfl) (okX7_thinks_0    V hk2 h)
theorem dX7_putsBack_0 : decode cX7_putsBack 0 = .ok (.iconst 0, 1) := by decide +kernel
theorem dX7_putsBack_1 : decode cX7_putsBack 1 = .ok (.istore_n 1, 1) := by decide +kernel
theorem dX7_putsBack_2 : decode cX7_putsBack 2 = .ok (.iload_n 1, 1) := by decide +kernel
theorem dX7_putsBack_3 : decode cX7_putsBack 3 = .ok (.bipush 107, 2) := by decide +kernel
theorem dX7_putsBack_5 : decode cX7_putsBack 5 = .ok (.if_icmp .ge 21, 3) := by decide +kernel
theorem dX7_putsBack_8 : decode cX7_putsBack 8 = .ok (.aload_n 0, 1) := by decide +kernel
theorem dX7_putsBack_9 : decode cX7_putsBack 9 = .ok (.getfield 9, 3) := by decide +kernel
theorem dX7_putsBack_12 : decode cX7_putsBack 12 = .ok (.iload_n 1, 1) := by decide +kernel
theorem dX7_putsBack_13 : decode cX7_putsBack 13 = .ok (.aload_n 0, 1) := by decide +kernel
theorem dX7_putsBack_14 : decode cX7_putsBack 14 = .ok (.getfield 19, 3) := by decide +kernel
theorem dX7_putsBack_17 : decode cX7_putsBack 17 = .ok (.iload_n 1, 1) := by decide +kernel
theorem dX7_putsBack_18 : decode cX7_putsBack 18 = .ok (.iaload, 1) := by decide +kernel
theorem dX7_putsBack_19 : decode cX7_putsBack 19 = .ok (.iastore, 1) := by decide +kernel
theorem dX7_putsBack_20 : decode cX7_putsBack 20 = .ok (.iinc 1 1, 3) := by decide +kernel
theorem dX7_putsBack_23 : decode cX7_putsBack 23 = .ok (.goto (-21), 3) := by decide +kernel
theorem dX7_putsBack_26 : decode cX7_putsBack 26 = .ok (.return_, 1) := by decide +kernel
def wpX7_putsBack_2 (C : CT) (I2 : Int32 → Mem → Prop)  (x1 : Int32) (V : Mem) (Q : Option AV → Mem → Prop) : Prop :=
  ((107 ≤ x1 → Q none V) ∧ (¬ 107 ≤ x1 → (∃ j_1 : Nat, x1 = nI j_1 ∧ j_1 < 107 ∧ (∀ V_2 : Mem, V_2 = mu V 25 0 j_1 (V 28 0 j_1) → I2 (x1 + 1) V_2))))
set_option maxRecDepth 10000 in
theorem okX7_putsBack_2 {d : Nat} {P : Option AV → Mem → Prop} {I2 : Int32 → Mem → Prop}   (x1 : Int32)  (V : Mem) (hk2 : ∀ (x1 : Int32), ∀ (V : Mem), I2 x1 V → Gq (Kp (d + 1) mX7_putsBack UM P) UM cX7_putsBack 2 RX7 2 [(0, aR 24 0), (1, aI x1)] [] V) (h : wpX7_putsBack_2 (Cl UM d) I2  x1 V P) : Gq (Kp (d + 1) mX7_putsBack UM P) UM cX7_putsBack 2 RX7 2 [(0, aR 24 0), (1, aI x1)] [] V := by
  unfold wpX7_putsBack_2 at h
  refine go_iload_n (q := 1) dX7_putsBack_2 rfl rfl ?_
  refine go_bipush (v := 107) dX7_putsBack_3 (by decide) ?_
  refine go_icmp_ge (tgt := 26) dX7_putsBack_5 (by decide) (fun c_3 => ?_) (fun c_3 => ?_)
  · have h := h.1 c_3
    exact go_vret rfl dX7_putsBack_26 h
  · have h := h.2 c_3
    refine go_aload_n (q := 0) dX7_putsBack_8 rfl rfl ?_
    refine go_getr fg_X7_9 dX7_putsBack_9 (mM (by decide) (by decide) rfl) ?_
    refine go_iload_n (q := 1) dX7_putsBack_12 rfl rfl ?_
    refine go_aload_n (q := 0) dX7_putsBack_13 rfl rfl ?_
    refine go_getr fg_X7_19 dX7_putsBack_14 (mM (by decide) (by decide) rfl) ?_
    refine go_iload_n (q := 1) dX7_putsBack_17 rfl rfl ?_
    obtain ⟨j_1, e_j_1, l_j_1, h⟩ := h
    refine go_iald (r := 28) (n := 107) (j := j_1) rfl (by decide) dX7_putsBack_18 (mM (by decide) (by decide) rfl) e_j_1 l_j_1 ?_
    refine go_iast (r := 25) (n := 1479) (j := j_1) rfl (by decide) dX7_putsBack_19 (mM (by decide) (by decide) rfl) e_j_1 (by omega) ?_
    refine nmV (fun V_2 e_V_2 => ?_)
    have h := h V_2 e_V_2
    refine go_iinc (q := 1) (y := 1) (al1 := [(1, aI (x1 + 1)), (0, aR 24 0)]) dX7_putsBack_20 rfl (by decide) (by decide) rfl ?_
    refine go_goto (tgt := 2) dX7_putsBack_23 (by decide) ?_
    refine go_sub (al1 := [(0, aR 24 0), (1, aI (x1 + 1))]) [1, 0] rfl ?_
    exact hk2 (x1 + 1)  V_2 h
def wpX7_putsBack_0 (C : CT) (I2 : Int32 → Mem → Prop)   (V : Mem) (Q : Option AV → Mem → Prop) : Prop :=
  I2 0 V
set_option maxRecDepth 10000 in
theorem okX7_putsBack_0 {d : Nat} {P : Option AV → Mem → Prop} {I2 : Int32 → Mem → Prop}     (V : Mem) (hk2 : ∀ (x1 : Int32), ∀ (V : Mem), I2 x1 V → Gq (Kp (d + 1) mX7_putsBack UM P) UM cX7_putsBack 2 RX7 2 [(0, aR 24 0), (1, aI x1)] [] V) (h : wpX7_putsBack_0 (Cl UM d) I2   V P) : Gq (Kp (d + 1) mX7_putsBack UM P) UM cX7_putsBack 2 RX7 0 [(0, aR 24 0)] [] V := by
  unfold wpX7_putsBack_0 at h
  refine go_iconst (v := 0) dX7_putsBack_0 (by decide) ?_
  refine go_istore_n (al1 := [(1, aI 0), (0, aR 24 0)]) dX7_putsBack_1 rfl (by decide) rfl ?_
  refine go_sub (al1 := [(0, aR 24 0), (1, aI 0)]) [1, 0] rfl ?_
  exact hk2 0  V h
theorem clX7_putsBack {d : Nat} {P : Option AV → Mem → Prop} {I2 : Int32 → Mem → Prop}    (V : Mem) (hk2 : ∀ (x1 : Int32), ∀ (V : Mem), I2 x1 V → Gq (Kp (d + 1) mX7_putsBack UM P) UM cX7_putsBack 2 RX7 2 [(0, aR 24 0), (1, aI x1)] [] V) (h : wpX7_putsBack_0 (Cl UM d) I2   V P) : Cl UM (d + 1) mX7_putsBack [aR 24 0] V P :=
  cl_of [(0, aR 24 0)] (by decide) (fun _ => Nat.le_of_ble_eq_true rfl) (fun _ => rfl) (okX7_putsBack_0    V hk2 h)
theorem dX7_behindIt_0 : decode cX7_behindIt 0 = .ok (.aload_n 0, 1) := by decide +kernel
theorem dX7_behindIt_1 : decode cX7_behindIt 1 = .ok (.iload_n 1, 1) := by decide +kernel
theorem dX7_behindIt_2 : decode cX7_behindIt 2 = .ok (.invokevirtual 155, 3) := by decide +kernel
theorem dX7_behindIt_5 : decode cX7_behindIt 5 = .ok (.istore_n 3, 1) := by decide +kernel
theorem dX7_behindIt_6 : decode cX7_behindIt 6 = .ok (.aload_n 0, 1) := by decide +kernel
theorem dX7_behindIt_7 : decode cX7_behindIt 7 = .ok (.getfield 9, 3) := by decide +kernel
theorem dX7_behindIt_10 : decode cX7_behindIt 10 = .ok (.iload_n 2, 1) := by decide +kernel
theorem dX7_behindIt_11 : decode cX7_behindIt 11 = .ok (.iaload, 1) := by decide +kernel
theorem dX7_behindIt_12 : decode cX7_behindIt 12 = .ok (.istore 4, 2) := by decide +kernel
theorem dX7_behindIt_14 : decode cX7_behindIt 14 = .ok (.aload_n 0, 1) := by decide +kernel
theorem dX7_behindIt_15 : decode cX7_behindIt 15 = .ok (.invokevirtual 161, 3) := by decide +kernel
theorem dX7_behindIt_18 : decode cX7_behindIt 18 = .ok (.iload 4, 2) := by decide +kernel
theorem dX7_behindIt_20 : decode cX7_behindIt 20 = .ok (.ireturn, 1) := by decide +kernel
def wpX7_behindIt_0 (C : CT)   (x1 : Int32) (x2 : Int32) (V : Mem) (Q : Option AV → Mem → Prop) : Prop :=
  (cI C mX7_hours [aR 24 0, aI x1] V (fun x_2 V_1 => (∃ j_3 : Nat, x2 = nI j_3 ∧ j_3 < 1479 ∧ (∀ z_4 : Int32, z_4 = (V_1 25 0 j_3) → (cV C mX7_putsBack [aR 24 0] V_1 (fun V_5 => Q (some (aI z_4)) V_5))))))
set_option maxRecDepth 10000 in
theorem okX7_behindIt_0 {d : Nat} {P : Option AV → Mem → Prop}    (x1 : Int32) (x2 : Int32)  (V : Mem)  (h : wpX7_behindIt_0 (Cl UM d)   x1 x2 V P) : Gq (Kp (d + 1) mX7_behindIt UM P) UM cX7_behindIt 5 RX7 0 [(0, aR 24 0), (1, aI x1), (2, aI x2)] [] V := by
  unfold wpX7_behindIt_0 at h
  refine go_aload_n (q := 0) dX7_behindIt_0 rfl rfl ?_
  refine go_iload_n (q := 1) dX7_behindIt_1 rfl rfl ?_
  refine go_cVI (As := [aI x1]) (st := []) (r := 24) (i := 0) mv_X7_hours dX7_behindIt_2 ml_X7_155 (hr_Kp (Nat.le_refl d)) rfl rfl (mM (by decide) (by decide) rfl) rfl rfl (Nat.le_of_ble_eq_true rfl) h (fun x_2 V_1 h => ?_)
  refine go_istore_n (al1 := [(3, aI x_2), (0, aR 24 0), (1, aI x1), (2, aI x2)]) dX7_behindIt_5 rfl (by decide) rfl ?_
  refine go_aload_n (q := 1) dX7_behindIt_6 rfl rfl ?_
  refine go_getr fg_X7_9 dX7_behindIt_7 (mM (by decide) (by decide) rfl) ?_
  refine go_iload_n (q := 3) dX7_behindIt_10 rfl rfl ?_
  obtain ⟨j_3, e_j_3, l_j_3, h⟩ := h
  refine go_iald (r := 25) (n := 1479) (j := j_3) rfl (by decide) dX7_behindIt_11 (mM (by decide) (by decide) rfl) e_j_3 l_j_3 ?_
  refine nmI (fun z_4 e_z_4 => ?_)
  have h := h z_4 e_z_4
  refine go_istore (al1 := [(4, aI z_4), (3, aI x_2), (0, aR 24 0), (1, aI x1), (2, aI x2)]) dX7_behindIt_12 (by decide) rfl ?_
  refine go_aload_n (q := 2) dX7_behindIt_14 rfl rfl ?_
  refine go_cVV (As := []) (st := []) (r := 24) (i := 0) mv_X7_putsBack dX7_behindIt_15 ml_X7_161 (hr_Kp (Nat.le_refl d)) rfl rfl (mM (by decide) (by decide) rfl) rfl rfl (Nat.le_of_ble_eq_true rfl) h (fun V_5 h => ?_)
  refine go_iload (q := 0) dX7_behindIt_18 rfl ?_
  exact go_iret rfl dX7_behindIt_20 h
theorem clX7_behindIt {d : Nat} {P : Option AV → Mem → Prop}    (x1 : Int32) (x2 : Int32) (V : Mem)  (h : wpX7_behindIt_0 (Cl UM d)   x1 x2 V P) : Cl UM (d + 1) mX7_behindIt [aR 24 0, aI x1, aI x2] V P :=
  cl_of [(0, aR 24 0), (1, aI x1), (2, aI x2)] (by decide) (fun _ => Nat.le_of_ble_eq_true rfl) (fun _ => rfl) (okX7_behindIt_0   x1 x2 V  h)
theorem dX7_waterAt_0 : decode cX7_waterAt 0 = .ok (.bipush 59, 2) := by decide +kernel
theorem dX7_waterAt_2 : decode cX7_waterAt 2 = .ok (.bipush 6, 2) := by decide +kernel
theorem dX7_waterAt_4 : decode cX7_waterAt 4 = .ok (.iload_n 0, 1) := by decide +kernel
theorem dX7_waterAt_5 : decode cX7_waterAt 5 = .ok (.imul, 1) := by decide +kernel
theorem dX7_waterAt_6 : decode cX7_waterAt 6 = .ok (.iadd, 1) := by decide +kernel
theorem dX7_waterAt_7 : decode cX7_waterAt 7 = .ok (.iconst 4, 1) := by decide +kernel
theorem dX7_waterAt_8 : decode cX7_waterAt 8 = .ok (.iadd, 1) := by decide +kernel
theorem dX7_waterAt_9 : decode cX7_waterAt 9 = .ok (.ireturn, 1) := by decide +kernel
def wpX7_waterAt_0 (C : CT)   (x0 : Int32) (V : Mem) (Q : Option AV → Mem → Prop) : Prop :=
  Q (some (aI ((59 + (6 * x0)) + 4))) V
set_option maxRecDepth 10000 in
theorem okX7_waterAt_0 {d : Nat} {P : Option AV → Mem → Prop}    (x0 : Int32)  (V : Mem)  (h : wpX7_waterAt_0 (Cl UM d)   x0 V P) : Gq (Kp (d + 1) mX7_waterAt UM P) UM cX7_waterAt 1 RX7 0 [(0, aI x0)] [] V := by
  unfold wpX7_waterAt_0 at h
  refine go_bipush (v := 59) dX7_waterAt_0 (by decide) ?_
  refine go_bipush (v := 6) dX7_waterAt_2 (by decide) ?_
  refine go_iload_n (q := 0) dX7_waterAt_4 rfl rfl ?_
  refine go_imul dX7_waterAt_5 ?_
  refine go_iadd dX7_waterAt_6 ?_
  refine go_iconst (v := 4) dX7_waterAt_7 (by decide) ?_
  refine go_iadd dX7_waterAt_8 ?_
  exact go_iret rfl dX7_waterAt_9 h
theorem clX7_waterAt {d : Nat} {P : Option AV → Mem → Prop}    (x0 : Int32) (V : Mem)  (h : wpX7_waterAt_0 (Cl UM d)   x0 V P) : Cl UM (d + 1) mX7_waterAt [aI x0] V P :=
  cl_of [(0, aI x0)] (by decide) (fun _ => Nat.le_of_ble_eq_true rfl) (fun _ => rfl) (okX7_waterAt_0   x0 V  h)
theorem dX7_behind_0 : decode cX7_behind 0 = .ok (.aload_n 0, 1) := by decide +kernel
theorem dX7_behind_1 : decode cX7_behind 1 = .ok (.iload_n 1, 1) := by decide +kernel
theorem dX7_behind_2 : decode cX7_behind 2 = .ok (.invokevirtual 111, 3) := by decide +kernel
theorem dX7_behind_5 : decode cX7_behind 5 = .ok (.ifCond .eq 23, 3) := by decide +kernel
theorem dX7_behind_8 : decode cX7_behind 8 = .ok (.iload_n 2, 1) := by decide +kernel
theorem dX7_behind_9 : decode cX7_behind 9 = .ok (.iconst 0, 1) := by decide +kernel
theorem dX7_behind_10 : decode cX7_behind 10 = .ok (.sipush 200, 3) := by decide +kernel
theorem dX7_behind_13 : decode cX7_behind 13 = .ok (.invokestatic 76, 3) := by decide +kernel
theorem dX7_behind_16 : decode cX7_behind 16 = .ok (.ifCond .eq 12, 3) := by decide +kernel
theorem dX7_behind_19 : decode cX7_behind 19 = .ok (.iload_n 3, 1) := by decide +kernel
theorem dX7_behind_20 : decode cX7_behind 20 = .ok (.iconst 0, 1) := by decide +kernel
theorem dX7_behind_21 : decode cX7_behind 21 = .ok (.iconst 3, 1) := by decide +kernel
theorem dX7_behind_22 : decode cX7_behind 22 = .ok (.invokestatic 76, 3) := by decide +kernel
theorem dX7_behind_25 : decode cX7_behind 25 = .ok (.ifCond .ne 6, 3) := by decide +kernel
theorem dX7_behind_28 : decode cX7_behind 28 = .ok (.ldc 84, 2) := by decide +kernel
theorem dX7_behind_30 : decode cX7_behind 30 = .ok (.ireturn, 1) := by decide +kernel
theorem dX7_behind_31 : decode cX7_behind 31 = .ok (.aload_n 0, 1) := by decide +kernel
theorem dX7_behind_32 : decode cX7_behind 32 = .ok (.invokevirtual 164, 3) := by decide +kernel
theorem dX7_behind_35 : decode cX7_behind 35 = .ok (.aload_n 0, 1) := by decide +kernel
theorem dX7_behind_36 : decode cX7_behind 36 = .ok (.iload_n 2, 1) := by decide +kernel
theorem dX7_behind_37 : decode cX7_behind 37 = .ok (.iload_n 3, 1) := by decide +kernel
theorem dX7_behind_38 : decode cX7_behind 38 = .ok (.iconst 2, 1) := by decide +kernel
theorem dX7_behind_39 : decode cX7_behind 39 = .ok (.if_icmp .ge 12, 3) := by decide +kernel
theorem dX7_behind_42 : decode cX7_behind 42 = .ok (.iload_n 1, 1) := by decide +kernel
theorem dX7_behind_43 : decode cX7_behind 43 = .ok (.invokestatic 167, 3) := by decide +kernel
theorem dX7_behind_46 : decode cX7_behind 46 = .ok (.iload_n 3, 1) := by decide +kernel
theorem dX7_behind_47 : decode cX7_behind 47 = .ok (.iadd, 1) := by decide +kernel
theorem dX7_behind_48 : decode cX7_behind 48 = .ok (.goto 14, 3) := by decide +kernel
theorem dX7_behind_51 : decode cX7_behind 51 = .ok (.iload_n 3, 1) := by decide +kernel
theorem dX7_behind_52 : decode cX7_behind 52 = .ok (.iconst 2, 1) := by decide +kernel
theorem dX7_behind_53 : decode cX7_behind 53 = .ok (.if_icmp .ne 7, 3) := by decide +kernel
theorem dX7_behind_56 : decode cX7_behind 56 = .ok (.iconst 5, 1) := by decide +kernel
theorem dX7_behind_57 : decode cX7_behind 57 = .ok (.goto 5, 3) := by decide +kernel
theorem dX7_behind_60 : decode cX7_behind 60 = .ok (.bipush 7, 2) := by decide +kernel
theorem dX7_behind_62 : decode cX7_behind 62 = .ok (.invokevirtual 170, 3) := by decide +kernel
theorem dX7_behind_65 : decode cX7_behind 65 = .ok (.ireturn, 1) := by decide +kernel
def wpX7_behind_0 (C : CT)   (x1 : Int32) (x2 : Int32) (x3 : Int32) (V : Mem) (Q : Option AV → Mem → Prop) : Prop :=
  (cI C mX7_isRoof [aR 24 0, aI x1] V (fun x_2 V_1 => ((x_2 = 0 → Q (some (aI (-1000000001))) V_1) ∧ (¬ x_2 = 0 → (cI C mX7_in [aI x2, aI 0, aI 200] V_1 (fun x_4 V_3 => ((x_4 = 0 → Q (some (aI (-1000000001))) V_3) ∧ (¬ x_4 = 0 → (cI C mX7_in [aI x3, aI 0, aI 3] V_3 (fun x_6 V_5 => ((¬ x_6 = 0 → (cV C mX7_thinks [aR 24 0] V_5 (fun V_7 => ((2 ≤ x3 → ((¬ x3 = 2 → (cI C mX7_behindIt [aR 24 0, aI x2, aI 7] V_7 (fun x_9 V_8 => Q (some (aI x_9)) V_8))) ∧ (x3 = 2 → (cI C mX7_behindIt [aR 24 0, aI x2, aI 5] V_7 (fun x_11 V_10 => Q (some (aI x_11)) V_10))))) ∧ (¬ 2 ≤ x3 → (cI C mX7_waterAt [aI x1] V_7 (fun x_14 V_13 => (cI C mX7_behindIt [aR 24 0, aI x2, aI (x_14 + x3)] V_13 (fun x_16 V_15 => Q (some (aI x_16)) V_15))))))))) ∧ (x_6 = 0 → Q (some (aI (-1000000001))) V_5))))))))))))
set_option maxRecDepth 10000 in
theorem okX7_behind_0 {d : Nat} {P : Option AV → Mem → Prop}    (x1 : Int32) (x2 : Int32) (x3 : Int32)  (V : Mem)  (h : wpX7_behind_0 (Cl UM d)   x1 x2 x3 V P) : Gq (Kp (d + 1) mX7_behind UM P) UM cX7_behind 4 RX7 0 [(0, aR 24 0), (1, aI x1), (2, aI x2), (3, aI x3)] [] V := by
  unfold wpX7_behind_0 at h
  refine go_aload_n (q := 0) dX7_behind_0 rfl rfl ?_
  refine go_iload_n (q := 1) dX7_behind_1 rfl rfl ?_
  refine go_cVI (As := [aI x1]) (st := []) (r := 24) (i := 0) mv_X7_isRoof dX7_behind_2 ml_X7_111 (hr_Kp (Nat.le_refl d)) rfl rfl (mM (by decide) (by decide) rfl) rfl rfl (Nat.le_of_ble_eq_true rfl) h (fun x_2 V_1 h => ?_)
  refine go_if_eq (tgt := 28) dX7_behind_5 (by decide) (fun c_20 => ?_) (fun c_20 => ?_)
  · have h := h.1 c_20
    refine go_ldc dX7_behind_28 ct_X7_84 ?_
    exact go_iret rfl dX7_behind_30 h
  · have h := h.2 c_20
    refine go_iload_n (q := 2) dX7_behind_8 rfl rfl ?_
    refine go_iconst (v := 0) dX7_behind_9 (by decide) ?_
    refine go_sipush (v := 200) dX7_behind_10 (by decide) ?_
    refine go_cSI (As := [aI x2, aI 0, aI 200]) (st := []) ms_X7_in dX7_behind_13 ml_X7_76 (hr_Kp (Nat.le_refl d)) rfl rfl (Nat.le_of_ble_eq_true rfl) h (fun x_4 V_3 h => ?_)
    refine go_if_eq (tgt := 28) dX7_behind_16 (by decide) (fun c_19 => ?_) (fun c_19 => ?_)
    · have h := h.1 c_19
      refine go_ldc dX7_behind_28 ct_X7_84 ?_
      exact go_iret rfl dX7_behind_30 h
    · have h := h.2 c_19
      refine go_iload_n (q := 3) dX7_behind_19 rfl rfl ?_
      refine go_iconst (v := 0) dX7_behind_20 (by decide) ?_
      refine go_iconst (v := 3) dX7_behind_21 (by decide) ?_
      refine go_cSI (As := [aI x3, aI 0, aI 3]) (st := []) ms_X7_in dX7_behind_22 ml_X7_76 (hr_Kp (Nat.le_refl d)) rfl rfl (Nat.le_of_ble_eq_true rfl) h (fun x_6 V_5 h => ?_)
      refine go_if_ne (tgt := 31) dX7_behind_25 (by decide) (fun c_18 => ?_) (fun c_18 => ?_)
      · have h := h.1 c_18
        refine go_aload_n (q := 0) dX7_behind_31 rfl rfl ?_
        refine go_cVV (As := []) (st := []) (r := 24) (i := 0) mv_X7_thinks dX7_behind_32 ml_X7_164 (hr_Kp (Nat.le_refl d)) rfl rfl (mM (by decide) (by decide) rfl) rfl rfl (Nat.le_of_ble_eq_true rfl) h (fun V_7 h => ?_)
        refine go_aload_n (q := 0) dX7_behind_35 rfl rfl ?_
        refine go_iload_n (q := 2) dX7_behind_36 rfl rfl ?_
        refine go_iload_n (q := 3) dX7_behind_37 rfl rfl ?_
        refine go_iconst (v := 2) dX7_behind_38 (by decide) ?_
        refine go_icmp_ge (tgt := 51) dX7_behind_39 (by decide) (fun c_17 => ?_) (fun c_17 => ?_)
        · have h := h.1 c_17
          refine go_iload_n (q := 3) dX7_behind_51 rfl rfl ?_
          refine go_iconst (v := 2) dX7_behind_52 (by decide) ?_
          refine go_icmp_ne (tgt := 60) dX7_behind_53 (by decide) (fun c_12 => ?_) (fun c_12 => ?_)
          · have h := h.1 c_12
            refine go_bipush (v := 7) dX7_behind_60 (by decide) ?_
            refine go_cVI (As := [aI x2, aI 7]) (st := []) (r := 24) (i := 0) mv_X7_behindIt dX7_behind_62 ml_X7_170 (hr_Kp (Nat.le_refl d)) rfl rfl (mM (by decide) (by decide) rfl) rfl rfl (Nat.le_of_ble_eq_true rfl) h (fun x_9 V_8 h => ?_)
            exact go_iret rfl dX7_behind_65 h
          · have h := h.2 c_12
            refine go_iconst (v := 5) dX7_behind_56 (by decide) ?_
            refine go_goto (tgt := 62) dX7_behind_57 (by decide) ?_
            refine go_cVI (As := [aI x2, aI 5]) (st := []) (r := 24) (i := 0) mv_X7_behindIt dX7_behind_62 ml_X7_170 (hr_Kp (Nat.le_refl d)) rfl rfl (mM (by decide) (by decide) rfl) rfl rfl (Nat.le_of_ble_eq_true rfl) h (fun x_11 V_10 h => ?_)
            exact go_iret rfl dX7_behind_65 h
        · have h := h.2 c_17
          refine go_iload_n (q := 1) dX7_behind_42 rfl rfl ?_
          refine go_cSI (As := [aI x1]) (st := [aI x2, aR 24 0]) ms_X7_waterAt dX7_behind_43 ml_X7_167 (hr_Kp (Nat.le_refl d)) rfl rfl (Nat.le_of_ble_eq_true rfl) h (fun x_14 V_13 h => ?_)
          refine go_iload_n (q := 3) dX7_behind_46 rfl rfl ?_
          refine go_iadd dX7_behind_47 ?_
          refine go_goto (tgt := 62) dX7_behind_48 (by decide) ?_
          refine go_cVI (As := [aI x2, aI (x_14 + x3)]) (st := []) (r := 24) (i := 0) mv_X7_behindIt dX7_behind_62 ml_X7_170 (hr_Kp (Nat.le_refl d)) rfl rfl (mM (by decide) (by decide) rfl) rfl rfl (Nat.le_of_ble_eq_true rfl) h (fun x_16 V_15 h => ?_)
          exact go_iret rfl dX7_behind_65 h
      · have h := h.2 c_18
        refine go_ldc dX7_behind_28 ct_X7_84 ?_
        exact go_iret rfl dX7_behind_30 h
theorem clX7_behind {d : Nat} {P : Option AV → Mem → Prop}    (x1 : Int32) (x2 : Int32) (x3 : Int32) (V : Mem)  (h : wpX7_behind_0 (Cl UM d)   x1 x2 x3 V P) : Cl UM (d + 1) mX7_behind [aR 24 0, aI x1, aI x2, aI x3] V P :=
  cl_of [(0, aR 24 0), (1, aI x1), (2, aI x2), (3, aI x3)] (by decide) (fun _ => Nat.le_of_ble_eq_true rfl) (fun _ => rfl) (okX7_behind_0   x1 x2 x3 V  h)
theorem dX7_best_0 : decode cX7_best 0 = .ok (.aload_n 0, 1) := by decide +kernel
theorem dX7_best_1 : decode cX7_best 1 = .ok (.iload_n 1, 1) := by decide +kernel
theorem dX7_best_2 : decode cX7_best 2 = .ok (.invokevirtual 111, 3) := by decide +kernel
theorem dX7_best_5 : decode cX7_best 5 = .ok (.ifCond .eq 22, 3) := by decide +kernel
theorem dX7_best_8 : decode cX7_best 8 = .ok (.iload_n 2, 1) := by decide +kernel
theorem dX7_best_9 : decode cX7_best 9 = .ok (.iconst 1, 1) := by decide +kernel
theorem dX7_best_10 : decode cX7_best 10 = .ok (.bipush 72, 2) := by decide +kernel
theorem dX7_best_12 : decode cX7_best 12 = .ok (.invokestatic 76, 3) := by decide +kernel
theorem dX7_best_15 : decode cX7_best 15 = .ok (.ifCond .eq 12, 3) := by decide +kernel
theorem dX7_best_18 : decode cX7_best 18 = .ok (.iload_n 3, 1) := by decide +kernel
theorem dX7_best_19 : decode cX7_best 19 = .ok (.iconst 0, 1) := by decide +kernel
theorem dX7_best_20 : decode cX7_best 20 = .ok (.iconst 1, 1) := by decide +kernel
theorem dX7_best_21 : decode cX7_best 21 = .ok (.invokestatic 76, 3) := by decide +kernel
theorem dX7_best_24 : decode cX7_best 24 = .ok (.ifCond .ne 6, 3) := by decide +kernel
theorem dX7_best_27 : decode cX7_best 27 = .ok (.ldc 84, 2) := by decide +kernel
theorem dX7_best_29 : decode cX7_best 29 = .ok (.ireturn, 1) := by decide +kernel
theorem dX7_best_30 : decode cX7_best 30 = .ok (.aload_n 0, 1) := by decide +kernel
theorem dX7_best_31 : decode cX7_best 31 = .ok (.invokevirtual 164, 3) := by decide +kernel
theorem dX7_best_34 : decode cX7_best 34 = .ok (.iconst 0, 1) := by decide +kernel
theorem dX7_best_35 : decode cX7_best 35 = .ok (.istore 4, 2) := by decide +kernel
theorem dX7_best_37 : decode cX7_best 37 = .ok (.iconst 0, 1) := by decide +kernel
theorem dX7_best_38 : decode cX7_best 38 = .ok (.istore 5, 2) := by decide +kernel
theorem dX7_best_40 : decode cX7_best 40 = .ok (.iconst 0, 1) := by decide +kernel
theorem dX7_best_41 : decode cX7_best 41 = .ok (.istore 6, 2) := by decide +kernel
theorem dX7_best_43 : decode cX7_best 43 = .ok (.iload 6, 2) := by decide +kernel
theorem dX7_best_45 : decode cX7_best 45 = .ok (.bipush 10, 2) := by decide +kernel
theorem dX7_best_47 : decode cX7_best 47 = .ok (.if_icmp .ge 70, 3) := by decide +kernel
theorem dX7_best_50 : decode cX7_best 50 = .ok (.aload_n 0, 1) := by decide +kernel
theorem dX7_best_51 : decode cX7_best 51 = .ok (.iload_n 1, 1) := by decide +kernel
theorem dX7_best_52 : decode cX7_best 52 = .ok (.iconst 2, 1) := by decide +kernel
theorem dX7_best_53 : decode cX7_best 53 = .ok (.iload 6, 2) := by decide +kernel
theorem dX7_best_55 : decode cX7_best 55 = .ok (.invokevirtual 80, 3) := by decide +kernel
theorem dX7_best_58 : decode cX7_best 58 = .ok (.aload_n 0, 1) := by decide +kernel
theorem dX7_best_59 : decode cX7_best 59 = .ok (.iload_n 2, 1) := by decide +kernel
theorem dX7_best_60 : decode cX7_best 60 = .ok (.iload_n 1, 1) := by decide +kernel
theorem dX7_best_61 : decode cX7_best 61 = .ok (.invokestatic 167, 3) := by decide +kernel
theorem dX7_best_64 : decode cX7_best 64 = .ok (.invokevirtual 170, 3) := by decide +kernel
theorem dX7_best_67 : decode cX7_best 67 = .ok (.iload_n 2, 1) := by decide +kernel
theorem dX7_best_68 : decode cX7_best 68 = .ok (.iload 6, 2) := by decide +kernel
theorem dX7_best_70 : decode cX7_best 70 = .ok (.imul, 1) := by decide +kernel
theorem dX7_best_71 : decode cX7_best 71 = .ok (.isub, 1) := by decide +kernel
theorem dX7_best_72 : decode cX7_best 72 = .ok (.istore 7, 2) := by decide +kernel
theorem dX7_best_74 : decode cX7_best 74 = .ok (.iload 6, 2) := by decide +kernel
theorem dX7_best_76 : decode cX7_best 76 = .ok (.ifCond .eq 10, 3) := by decide +kernel
theorem dX7_best_79 : decode cX7_best 79 = .ok (.iload 7, 2) := by decide +kernel
theorem dX7_best_81 : decode cX7_best 81 = .ok (.iload 5, 2) := by decide +kernel
theorem dX7_best_83 : decode cX7_best 83 = .ok (.if_icmp .le 8, 3) := by decide +kernel
theorem dX7_best_86 : decode cX7_best 86 = .ok (.iload 6, 2) := by decide +kernel
theorem dX7_best_88 : decode cX7_best 88 = .ok (.goto 5, 3) := by decide +kernel
theorem dX7_best_91 : decode cX7_best 91 = .ok (.iload 4, 2) := by decide +kernel
theorem dX7_best_93 : decode cX7_best 93 = .ok (.istore 4, 2) := by decide +kernel
theorem dX7_best_95 : decode cX7_best 95 = .ok (.iload 4, 2) := by decide +kernel
theorem dX7_best_97 : decode cX7_best 97 = .ok (.iload 6, 2) := by decide +kernel
theorem dX7_best_99 : decode cX7_best 99 = .ok (.if_icmp .ne 8, 3) := by decide +kernel
theorem dX7_best_102 : decode cX7_best 102 = .ok (.iload 7, 2) := by decide +kernel
theorem dX7_best_104 : decode cX7_best 104 = .ok (.goto 5, 3) := by decide +kernel
theorem dX7_best_107 : decode cX7_best 107 = .ok (.iload 5, 2) := by decide +kernel
theorem dX7_best_109 : decode cX7_best 109 = .ok (.istore 5, 2) := by decide +kernel
theorem dX7_best_111 : decode cX7_best 111 = .ok (.iinc 6 1, 3) := by decide +kernel
theorem dX7_best_114 : decode cX7_best 114 = .ok (.goto (-71), 3) := by decide +kernel
theorem dX7_best_117 : decode cX7_best 117 = .ok (.iload_n 3, 1) := by decide +kernel
theorem dX7_best_118 : decode cX7_best 118 = .ok (.ifCond .ne 8, 3) := by decide +kernel
theorem dX7_best_121 : decode cX7_best 121 = .ok (.iload 4, 2) := by decide +kernel
theorem dX7_best_123 : decode cX7_best 123 = .ok (.goto 5, 3) := by decide +kernel
theorem dX7_best_126 : decode cX7_best 126 = .ok (.iload 5, 2) := by decide +kernel
theorem dX7_best_128 : decode cX7_best 128 = .ok (.ireturn, 1) := by decide +kernel
def wpX7_best_93 (C : CT) (I43 : Int32 → Int32 → Int32 → Int32 → Int32 → Int32 → Mem → Prop)  (x1 : Int32) (x2 : Int32) (x3 : Int32) (x4 : Int32) (x5 : Int32) (x6 : Int32) (x7 : Int32) (s0 : Int32) (V : Mem) (Q : Option AV → Mem → Prop) : Prop :=
  ((¬ s0 = x6 → I43 x1 x2 x3 s0 x5 (x6 + 1) V) ∧ (s0 = x6 → I43 x1 x2 x3 s0 x7 (x6 + 1) V))
set_option maxRecDepth 10000 in
theorem okX7_best_93 {d : Nat} {P : Option AV → Mem → Prop} {I43 : Int32 → Int32 → Int32 → Int32 → Int32 → Int32 → Mem → Prop}   (x1 : Int32) (x2 : Int32) (x3 : Int32) (x4 : Int32) (x5 : Int32) (x6 : Int32) (x7 : Int32) (s0 : Int32)  (V : Mem) (hk43 : ∀ (x1 : Int32) (x2 : Int32) (x3 : Int32) (x4 : Int32) (x5 : Int32) (x6 : Int32), ∀ (V : Mem), I43 x1 x2 x3 x4 x5 x6 V → Gq (Kp (d + 1) mX7_best UM P) UM cX7_best 8 RX7 43 [(0, aR 24 0), (1, aI x1), (2, aI x2), (3, aI x3), (4, aI x4), (5, aI x5), (6, aI x6)] [] V) (h : wpX7_best_93 (Cl UM d) I43  x1 x2 x3 x4 x5 x6 x7 s0 V P) : Gq (Kp (d + 1) mX7_best UM P) UM cX7_best 8 RX7 93 [(0, aR 24 0), (1, aI x1), (2, aI x2), (3, aI x3), (4, aI x4), (5, aI x5), (6, aI x6), (7, aI x7)] [aI s0] V := by
  unfold wpX7_best_93 at h
  refine go_istore (al1 := [(4, aI s0), (0, aR 24 0), (1, aI x1), (2, aI x2), (3, aI x3), (5, aI x5), (6, aI x6), (7, aI x7)]) dX7_best_93 (by decide) rfl ?_
  refine go_iload (q := 0) dX7_best_95 rfl ?_
  refine go_iload (q := 6) dX7_best_97 rfl ?_
  refine go_icmp_ne (tgt := 107) dX7_best_99 (by decide) (fun c_1 => ?_) (fun c_1 => ?_)
  · have h := h.1 c_1
    refine go_iload (q := 5) dX7_best_107 rfl ?_
    refine go_istore (al1 := [(5, aI x5), (4, aI s0), (0, aR 24 0), (1, aI x1), (2, aI x2), (3, aI x3), (6, aI x6), (7, aI x7)]) dX7_best_109 (by decide) rfl ?_
    refine go_iinc (q := 6) (y := 1) (al1 := [(6, aI (x6 + 1)), (5, aI x5), (4, aI s0), (0, aR 24 0), (1, aI x1), (2, aI x2), (3, aI x3), (7, aI x7)]) dX7_best_111 rfl (by decide) (by decide) rfl ?_
    refine go_goto (tgt := 43) dX7_best_114 (by decide) ?_
    refine go_sub (al1 := [(0, aR 24 0), (1, aI x1), (2, aI x2), (3, aI x3), (4, aI s0), (5, aI x5), (6, aI (x6 + 1))]) [3, 4, 5, 6, 2, 1, 0] rfl ?_
    exact hk43 x1 x2 x3 s0 x5 (x6 + 1)  V h
  · have h := h.2 c_1
    refine go_iload (q := 7) dX7_best_102 rfl ?_
    refine go_goto (tgt := 109) dX7_best_104 (by decide) ?_
    refine go_istore (al1 := [(5, aI x7), (4, aI s0), (0, aR 24 0), (1, aI x1), (2, aI x2), (3, aI x3), (6, aI x6), (7, aI x7)]) dX7_best_109 (by decide) rfl ?_
    refine go_iinc (q := 6) (y := 1) (al1 := [(6, aI (x6 + 1)), (5, aI x7), (4, aI s0), (0, aR 24 0), (1, aI x1), (2, aI x2), (3, aI x3), (7, aI x7)]) dX7_best_111 rfl (by decide) (by decide) rfl ?_
    refine go_goto (tgt := 43) dX7_best_114 (by decide) ?_
    refine go_sub (al1 := [(0, aR 24 0), (1, aI x1), (2, aI x2), (3, aI x3), (4, aI s0), (5, aI x7), (6, aI (x6 + 1))]) [3, 4, 5, 6, 2, 1, 0] rfl ?_
    exact hk43 x1 x2 x3 s0 x7 (x6 + 1)  V h
def wpX7_best_86 (C : CT) (I43 : Int32 → Int32 → Int32 → Int32 → Int32 → Int32 → Mem → Prop)  (x1 : Int32) (x2 : Int32) (x3 : Int32) (x4 : Int32) (x5 : Int32) (x6 : Int32) (x7 : Int32) (V : Mem) (Q : Option AV → Mem → Prop) : Prop :=
  wpX7_best_93 C I43  x1 x2 x3 x4 x5 x6 x7 x6 V Q
set_option maxRecDepth 10000 in
theorem okX7_best_86 {d : Nat} {P : Option AV → Mem → Prop} {I43 : Int32 → Int32 → Int32 → Int32 → Int32 → Int32 → Mem → Prop}   (x1 : Int32) (x2 : Int32) (x3 : Int32) (x4 : Int32) (x5 : Int32) (x6 : Int32) (x7 : Int32)  (V : Mem) (hk43 : ∀ (x1 : Int32) (x2 : Int32) (x3 : Int32) (x4 : Int32) (x5 : Int32) (x6 : Int32), ∀ (V : Mem), I43 x1 x2 x3 x4 x5 x6 V → Gq (Kp (d + 1) mX7_best UM P) UM cX7_best 8 RX7 43 [(0, aR 24 0), (1, aI x1), (2, aI x2), (3, aI x3), (4, aI x4), (5, aI x5), (6, aI x6)] [] V) (h : wpX7_best_86 (Cl UM d) I43  x1 x2 x3 x4 x5 x6 x7 V P) : Gq (Kp (d + 1) mX7_best UM P) UM cX7_best 8 RX7 86 [(0, aR 24 0), (1, aI x1), (2, aI x2), (3, aI x3), (4, aI x4), (5, aI x5), (6, aI x6), (7, aI x7)] [] V := by
  unfold wpX7_best_86 at h
  refine go_iload (q := 6) dX7_best_86 rfl ?_
  refine go_goto (tgt := 93) dX7_best_88 (by decide) ?_
  exact okX7_best_93   x1 x2 x3 x4 x5 x6 x7 x6  V hk43 h
def wpX7_best_43 (C : CT) (I43 : Int32 → Int32 → Int32 → Int32 → Int32 → Int32 → Mem → Prop)  (x1 : Int32) (x2 : Int32) (x3 : Int32) (x4 : Int32) (x5 : Int32) (x6 : Int32) (V : Mem) (Q : Option AV → Mem → Prop) : Prop :=
  ((10 ≤ x6 → ((¬ x3 = 0 → Q (some (aI x5)) V) ∧ (x3 = 0 → Q (some (aI x4)) V))) ∧ (¬ 10 ≤ x6 → (cV C mX7_put [aR 24 0, aI x1, aI 2, aI x6] V (fun V_2 => (cI C mX7_waterAt [aI x1] V_2 (fun x_4 V_3 => (cI C mX7_behindIt [aR 24 0, aI x2, aI x_4] V_3 (fun x_6 V_5 => (∀ z_7 : Int32, z_7 = (x_6 - (x2 * x6)) → ((x6 = 0 → wpX7_best_86 C I43  x1 x2 x3 x4 x5 x6 z_7 V_5 Q) ∧ (¬ x6 = 0 → ((z_7 ≤ x5 → wpX7_best_93 C I43  x1 x2 x3 x4 x5 x6 z_7 x4 V_5 Q) ∧ (¬ z_7 ≤ x5 → wpX7_best_86 C I43  x1 x2 x3 x4 x5 x6 z_7 V_5 Q)))))))))))))
set_option maxRecDepth 10000 in
theorem okX7_best_43 {d : Nat} {P : Option AV → Mem → Prop} {I43 : Int32 → Int32 → Int32 → Int32 → Int32 → Int32 → Mem → Prop}   (x1 : Int32) (x2 : Int32) (x3 : Int32) (x4 : Int32) (x5 : Int32) (x6 : Int32)  (V : Mem) (hk43 : ∀ (x1 : Int32) (x2 : Int32) (x3 : Int32) (x4 : Int32) (x5 : Int32) (x6 : Int32), ∀ (V : Mem), I43 x1 x2 x3 x4 x5 x6 V → Gq (Kp (d + 1) mX7_best UM P) UM cX7_best 8 RX7 43 [(0, aR 24 0), (1, aI x1), (2, aI x2), (3, aI x3), (4, aI x4), (5, aI x5), (6, aI x6)] [] V) (h : wpX7_best_43 (Cl UM d) I43  x1 x2 x3 x4 x5 x6 V P) : Gq (Kp (d + 1) mX7_best UM P) UM cX7_best 8 RX7 43 [(0, aR 24 0), (1, aI x1), (2, aI x2), (3, aI x3), (4, aI x4), (5, aI x5), (6, aI x6)] [] V := by
  unfold wpX7_best_43 at h
  refine go_iload (q := 6) dX7_best_43 rfl ?_
  refine go_bipush (v := 10) dX7_best_45 (by decide) ?_
  refine go_icmp_ge (tgt := 117) dX7_best_47 (by decide) (fun c_10 => ?_) (fun c_10 => ?_)
  · have h := h.1 c_10
    refine go_iload_n (q := 3) dX7_best_117 rfl rfl ?_
    refine go_if_ne (tgt := 126) dX7_best_118 (by decide) (fun c_1 => ?_) (fun c_1 => ?_)
    · have h := h.1 c_1
      refine go_iload (q := 5) dX7_best_126 rfl ?_
      exact go_iret rfl dX7_best_128 h
    · have h := h.2 c_1
      refine go_iload (q := 4) dX7_best_121 rfl ?_
      refine go_goto (tgt := 128) dX7_best_123 (by decide) ?_
      exact go_iret rfl dX7_best_128 h
  · have h := h.2 c_10
    refine go_aload_n (q := 0) dX7_best_50 rfl rfl ?_
    refine go_iload_n (q := 1) dX7_best_51 rfl rfl ?_
    refine go_iconst (v := 2) dX7_best_52 (by decide) ?_
    refine go_iload (q := 6) dX7_best_53 rfl ?_
    refine go_cVV (As := [aI x1, aI 2, aI x6]) (st := []) (r := 24) (i := 0) mv_X7_put dX7_best_55 ml_X7_80 (hr_Kp (Nat.le_refl d)) rfl rfl (mM (by decide) (by decide) rfl) rfl rfl (Nat.le_of_ble_eq_true rfl) h (fun V_2 h => ?_)
    refine go_aload_n (q := 0) dX7_best_58 rfl rfl ?_
    refine go_iload_n (q := 2) dX7_best_59 rfl rfl ?_
    refine go_iload_n (q := 1) dX7_best_60 rfl rfl ?_
    refine go_cSI (As := [aI x1]) (st := [aI x2, aR 24 0]) ms_X7_waterAt dX7_best_61 ml_X7_167 (hr_Kp (Nat.le_refl d)) rfl rfl (Nat.le_of_ble_eq_true rfl) h (fun x_4 V_3 h => ?_)
    refine go_cVI (As := [aI x2, aI x_4]) (st := []) (r := 24) (i := 0) mv_X7_behindIt dX7_best_64 ml_X7_170 (hr_Kp (Nat.le_refl d)) rfl rfl (mM (by decide) (by decide) rfl) rfl rfl (Nat.le_of_ble_eq_true rfl) h (fun x_6 V_5 h => ?_)
    refine go_iload_n (q := 2) dX7_best_67 rfl rfl ?_
    refine go_iload (q := 6) dX7_best_68 rfl ?_
    refine go_imul dX7_best_70 ?_
    refine go_isub dX7_best_71 ?_
    refine nmI (fun z_7 e_z_7 => ?_)
    have h := h z_7 e_z_7
    refine go_istore (al1 := [(7, aI z_7), (0, aR 24 0), (1, aI x1), (2, aI x2), (3, aI x3), (4, aI x4), (5, aI x5), (6, aI x6)]) dX7_best_72 (by decide) rfl ?_
    refine go_iload (q := 7) dX7_best_74 rfl ?_
    refine go_if_eq (tgt := 86) dX7_best_76 (by decide) (fun c_9 => ?_) (fun c_9 => ?_)
    · have h := h.1 c_9
      refine go_sub (al1 := [(0, aR 24 0), (1, aI x1), (2, aI x2), (3, aI x3), (4, aI x4), (5, aI x5), (6, aI x6), (7, aI z_7)]) [1, 2, 3, 4, 5, 6, 7, 0] rfl ?_
      exact okX7_best_86   x1 x2 x3 x4 x5 x6 z_7  V_5 hk43 h
    · have h := h.2 c_9
      refine go_iload (q := 0) dX7_best_79 rfl ?_
      refine go_iload (q := 6) dX7_best_81 rfl ?_
      refine go_icmp_le (tgt := 91) dX7_best_83 (by decide) (fun c_8 => ?_) (fun c_8 => ?_)
      · have h := h.1 c_8
        refine go_iload (q := 5) dX7_best_91 rfl ?_
        refine go_sub (al1 := [(0, aR 24 0), (1, aI x1), (2, aI x2), (3, aI x3), (4, aI x4), (5, aI x5), (6, aI x6), (7, aI z_7)]) [1, 2, 3, 4, 5, 6, 7, 0] rfl ?_
        exact okX7_best_93   x1 x2 x3 x4 x5 x6 z_7 x4  V_5 hk43 h
      · have h := h.2 c_8
        refine go_sub (al1 := [(0, aR 24 0), (1, aI x1), (2, aI x2), (3, aI x3), (4, aI x4), (5, aI x5), (6, aI x6), (7, aI z_7)]) [1, 2, 3, 4, 5, 6, 7, 0] rfl ?_
        exact okX7_best_86   x1 x2 x3 x4 x5 x6 z_7  V_5 hk43 h
def wpX7_best_0 (C : CT) (I43 : Int32 → Int32 → Int32 → Int32 → Int32 → Int32 → Mem → Prop)  (x1 : Int32) (x2 : Int32) (x3 : Int32) (V : Mem) (Q : Option AV → Mem → Prop) : Prop :=
  (cI C mX7_isRoof [aR 24 0, aI x1] V (fun x_2 V_1 => ((x_2 = 0 → Q (some (aI (-1000000001))) V_1) ∧ (¬ x_2 = 0 → (cI C mX7_in [aI x2, aI 1, aI 72] V_1 (fun x_4 V_3 => ((x_4 = 0 → Q (some (aI (-1000000001))) V_3) ∧ (¬ x_4 = 0 → (cI C mX7_in [aI x3, aI 0, aI 1] V_3 (fun x_6 V_5 => ((¬ x_6 = 0 → (cV C mX7_thinks [aR 24 0] V_5 (fun V_7 => I43 x1 x2 x3 0 0 0 V_7))) ∧ (x_6 = 0 → Q (some (aI (-1000000001))) V_5))))))))))))
set_option maxRecDepth 10000 in
theorem okX7_best_0 {d : Nat} {P : Option AV → Mem → Prop} {I43 : Int32 → Int32 → Int32 → Int32 → Int32 → Int32 → Mem → Prop}   (x1 : Int32) (x2 : Int32) (x3 : Int32)  (V : Mem) (hk43 : ∀ (x1 : Int32) (x2 : Int32) (x3 : Int32) (x4 : Int32) (x5 : Int32) (x6 : Int32), ∀ (V : Mem), I43 x1 x2 x3 x4 x5 x6 V → Gq (Kp (d + 1) mX7_best UM P) UM cX7_best 8 RX7 43 [(0, aR 24 0), (1, aI x1), (2, aI x2), (3, aI x3), (4, aI x4), (5, aI x5), (6, aI x6)] [] V) (h : wpX7_best_0 (Cl UM d) I43  x1 x2 x3 V P) : Gq (Kp (d + 1) mX7_best UM P) UM cX7_best 8 RX7 0 [(0, aR 24 0), (1, aI x1), (2, aI x2), (3, aI x3)] [] V := by
  unfold wpX7_best_0 at h
  refine go_aload_n (q := 0) dX7_best_0 rfl rfl ?_
  refine go_iload_n (q := 1) dX7_best_1 rfl rfl ?_
  refine go_cVI (As := [aI x1]) (st := []) (r := 24) (i := 0) mv_X7_isRoof dX7_best_2 ml_X7_111 (hr_Kp (Nat.le_refl d)) rfl rfl (mM (by decide) (by decide) rfl) rfl rfl (Nat.le_of_ble_eq_true rfl) h (fun x_2 V_1 h => ?_)
  refine go_if_eq (tgt := 27) dX7_best_5 (by decide) (fun c_10 => ?_) (fun c_10 => ?_)
  · have h := h.1 c_10
    refine go_ldc dX7_best_27 ct_X7_84 ?_
    exact go_iret rfl dX7_best_29 h
  · have h := h.2 c_10
    refine go_iload_n (q := 2) dX7_best_8 rfl rfl ?_
    refine go_iconst (v := 1) dX7_best_9 (by decide) ?_
    refine go_bipush (v := 72) dX7_best_10 (by decide) ?_
    refine go_cSI (As := [aI x2, aI 1, aI 72]) (st := []) ms_X7_in dX7_best_12 ml_X7_76 (hr_Kp (Nat.le_refl d)) rfl rfl (Nat.le_of_ble_eq_true rfl) h (fun x_4 V_3 h => ?_)
    refine go_if_eq (tgt := 27) dX7_best_15 (by decide) (fun c_9 => ?_) (fun c_9 => ?_)
    · have h := h.1 c_9
      refine go_ldc dX7_best_27 ct_X7_84 ?_
      exact go_iret rfl dX7_best_29 h
    · have h := h.2 c_9
      refine go_iload_n (q := 3) dX7_best_18 rfl rfl ?_
      refine go_iconst (v := 0) dX7_best_19 (by decide) ?_
      refine go_iconst (v := 1) dX7_best_20 (by decide) ?_
      refine go_cSI (As := [aI x3, aI 0, aI 1]) (st := []) ms_X7_in dX7_best_21 ml_X7_76 (hr_Kp (Nat.le_refl d)) rfl rfl (Nat.le_of_ble_eq_true rfl) h (fun x_6 V_5 h => ?_)
      refine go_if_ne (tgt := 30) dX7_best_24 (by decide) (fun c_8 => ?_) (fun c_8 => ?_)
      · have h := h.1 c_8
        refine go_aload_n (q := 0) dX7_best_30 rfl rfl ?_
        refine go_cVV (As := []) (st := []) (r := 24) (i := 0) mv_X7_thinks dX7_best_31 ml_X7_164 (hr_Kp (Nat.le_refl d)) rfl rfl (mM (by decide) (by decide) rfl) rfl rfl (Nat.le_of_ble_eq_true rfl) h (fun V_7 h => ?_)
        refine go_iconst (v := 0) dX7_best_34 (by decide) ?_
        refine go_istore (al1 := [(4, aI 0), (0, aR 24 0), (1, aI x1), (2, aI x2), (3, aI x3)]) dX7_best_35 (by decide) rfl ?_
        refine go_iconst (v := 0) dX7_best_37 (by decide) ?_
        refine go_istore (al1 := [(5, aI 0), (4, aI 0), (0, aR 24 0), (1, aI x1), (2, aI x2), (3, aI x3)]) dX7_best_38 (by decide) rfl ?_
        refine go_iconst (v := 0) dX7_best_40 (by decide) ?_
        refine go_istore (al1 := [(6, aI 0), (5, aI 0), (4, aI 0), (0, aR 24 0), (1, aI x1), (2, aI x2), (3, aI x3)]) dX7_best_41 (by decide) rfl ?_
        refine go_sub (al1 := [(0, aR 24 0), (1, aI x1), (2, aI x2), (3, aI x3), (4, aI 0), (5, aI 0), (6, aI 0)]) [3, 4, 5, 6, 2, 1, 0] rfl ?_
        exact hk43 x1 x2 x3 0 0 0  V_7 h
      · have h := h.2 c_8
        refine go_ldc dX7_best_27 ct_X7_84 ?_
        exact go_iret rfl dX7_best_29 h
theorem clX7_best {d : Nat} {P : Option AV → Mem → Prop} {I43 : Int32 → Int32 → Int32 → Int32 → Int32 → Int32 → Mem → Prop}   (x1 : Int32) (x2 : Int32) (x3 : Int32) (V : Mem) (hk43 : ∀ (x1 : Int32) (x2 : Int32) (x3 : Int32) (x4 : Int32) (x5 : Int32) (x6 : Int32), ∀ (V : Mem), I43 x1 x2 x3 x4 x5 x6 V → Gq (Kp (d + 1) mX7_best UM P) UM cX7_best 8 RX7 43 [(0, aR 24 0), (1, aI x1), (2, aI x2), (3, aI x3), (4, aI x4), (5, aI x5), (6, aI x6)] [] V) (h : wpX7_best_0 (Cl UM d) I43  x1 x2 x3 V P) : Cl UM (d + 1) mX7_best [aR 24 0, aI x1, aI x2, aI x3] V P :=
  cl_of [(0, aR 24 0), (1, aI x1), (2, aI x2), (3, aI x3)] (by decide) (fun _ => Nat.le_of_ble_eq_true rfl) (fun _ => rfl) (okX7_best_0   x1 x2 x3 V hk43 h)
theorem dX7_leastRoom_0 : decode cX7_leastRoom 0 = .ok (.aload_n 0, 1) := by decide +kernel
theorem dX7_leastRoom_1 : decode cX7_leastRoom 1 = .ok (.iload_n 1, 1) := by decide +kernel
theorem dX7_leastRoom_2 : decode cX7_leastRoom 2 = .ok (.invokevirtual 111, 3) := by decide +kernel
theorem dX7_leastRoom_5 : decode cX7_leastRoom 5 = .ok (.ifCond .eq 14, 3) := by decide +kernel
theorem dX7_leastRoom_8 : decode cX7_leastRoom 8 = .ok (.iload_n 2, 1) := by decide +kernel
theorem dX7_leastRoom_9 : decode cX7_leastRoom 9 = .ok (.iconst 0, 1) := by decide +kernel
theorem dX7_leastRoom_10 : decode cX7_leastRoom 10 = .ok (.sipush 200, 3) := by decide +kernel
theorem dX7_leastRoom_13 : decode cX7_leastRoom 13 = .ok (.invokestatic 76, 3) := by decide +kernel
theorem dX7_leastRoom_16 : decode cX7_leastRoom 16 = .ok (.ifCond .ne 6, 3) := by decide +kernel
theorem dX7_leastRoom_19 : decode cX7_leastRoom 19 = .ok (.ldc 84, 2) := by decide +kernel
theorem dX7_leastRoom_21 : decode cX7_leastRoom 21 = .ok (.ireturn, 1) := by decide +kernel
theorem dX7_leastRoom_22 : decode cX7_leastRoom 22 = .ok (.aload_n 0, 1) := by decide +kernel
theorem dX7_leastRoom_23 : decode cX7_leastRoom 23 = .ok (.invokevirtual 164, 3) := by decide +kernel
theorem dX7_leastRoom_26 : decode cX7_leastRoom 26 = .ok (.aload_n 0, 1) := by decide +kernel
theorem dX7_leastRoom_27 : decode cX7_leastRoom 27 = .ok (.iload_n 1, 1) := by decide +kernel
theorem dX7_leastRoom_28 : decode cX7_leastRoom 28 = .ok (.iconst 3, 1) := by decide +kernel
theorem dX7_leastRoom_29 : decode cX7_leastRoom 29 = .ok (.ldc 173, 2) := by decide +kernel
theorem dX7_leastRoom_31 : decode cX7_leastRoom 31 = .ok (.invokevirtual 80, 3) := by decide +kernel
theorem dX7_leastRoom_34 : decode cX7_leastRoom 34 = .ok (.aload_n 0, 1) := by decide +kernel
theorem dX7_leastRoom_35 : decode cX7_leastRoom 35 = .ok (.iload_n 1, 1) := by decide +kernel
theorem dX7_leastRoom_36 : decode cX7_leastRoom 36 = .ok (.iconst 4, 1) := by decide +kernel
theorem dX7_leastRoom_37 : decode cX7_leastRoom 37 = .ok (.invokevirtual 94, 3) := by decide +kernel
theorem dX7_leastRoom_40 : decode cX7_leastRoom 40 = .ok (.istore_n 3, 1) := by decide +kernel
theorem dX7_leastRoom_41 : decode cX7_leastRoom 41 = .ok (.iconst 0, 1) := by decide +kernel
theorem dX7_leastRoom_42 : decode cX7_leastRoom 42 = .ok (.istore 4, 2) := by decide +kernel
theorem dX7_leastRoom_44 : decode cX7_leastRoom 44 = .ok (.iload 4, 2) := by decide +kernel
theorem dX7_leastRoom_46 : decode cX7_leastRoom 46 = .ok (.iload_n 2, 1) := by decide +kernel
theorem dX7_leastRoom_47 : decode cX7_leastRoom 47 = .ok (.if_icmp .ge 36, 3) := by decide +kernel
theorem dX7_leastRoom_50 : decode cX7_leastRoom 50 = .ok (.aload_n 0, 1) := by decide +kernel
theorem dX7_leastRoom_51 : decode cX7_leastRoom 51 = .ok (.invokevirtual 152, 3) := by decide +kernel
theorem dX7_leastRoom_54 : decode cX7_leastRoom 54 = .ok (.istore 5, 2) := by decide +kernel
theorem dX7_leastRoom_56 : decode cX7_leastRoom 56 = .ok (.aload_n 0, 1) := by decide +kernel
theorem dX7_leastRoom_57 : decode cX7_leastRoom 57 = .ok (.iload_n 1, 1) := by decide +kernel
theorem dX7_leastRoom_58 : decode cX7_leastRoom 58 = .ok (.iconst 4, 1) := by decide +kernel
theorem dX7_leastRoom_59 : decode cX7_leastRoom 59 = .ok (.invokevirtual 94, 3) := by decide +kernel
theorem dX7_leastRoom_62 : decode cX7_leastRoom 62 = .ok (.iload_n 3, 1) := by decide +kernel
theorem dX7_leastRoom_63 : decode cX7_leastRoom 63 = .ok (.if_icmp .le 12, 3) := by decide +kernel
theorem dX7_leastRoom_66 : decode cX7_leastRoom 66 = .ok (.aload_n 0, 1) := by decide +kernel
theorem dX7_leastRoom_67 : decode cX7_leastRoom 67 = .ok (.iload_n 1, 1) := by decide +kernel
theorem dX7_leastRoom_68 : decode cX7_leastRoom 68 = .ok (.iconst 4, 1) := by decide +kernel
theorem dX7_leastRoom_69 : decode cX7_leastRoom 69 = .ok (.invokevirtual 94, 3) := by decide +kernel
theorem dX7_leastRoom_72 : decode cX7_leastRoom 72 = .ok (.goto 4, 3) := by decide +kernel
theorem dX7_leastRoom_75 : decode cX7_leastRoom 75 = .ok (.iload_n 3, 1) := by decide +kernel
theorem dX7_leastRoom_76 : decode cX7_leastRoom 76 = .ok (.istore_n 3, 1) := by decide +kernel
theorem dX7_leastRoom_77 : decode cX7_leastRoom 77 = .ok (.iinc 4 1, 3) := by decide +kernel
theorem dX7_leastRoom_80 : decode cX7_leastRoom 80 = .ok (.goto (-36), 3) := by decide +kernel
theorem dX7_leastRoom_83 : decode cX7_leastRoom 83 = .ok (.aload_n 0, 1) := by decide +kernel
theorem dX7_leastRoom_84 : decode cX7_leastRoom 84 = .ok (.invokevirtual 161, 3) := by decide +kernel
theorem dX7_leastRoom_87 : decode cX7_leastRoom 87 = .ok (.iload_n 3, 1) := by decide +kernel
theorem dX7_leastRoom_88 : decode cX7_leastRoom 88 = .ok (.ireturn, 1) := by decide +kernel
def wpX7_leastRoom_44 (C : CT) (I44 : Int32 → Int32 → Int32 → Int32 → Mem → Prop)  (x1 : Int32) (x2 : Int32) (x3 : Int32) (x4 : Int32) (V : Mem) (Q : Option AV → Mem → Prop) : Prop :=
  ((x2 ≤ x4 → (cV C mX7_putsBack [aR 24 0] V (fun V_1 => Q (some (aI x3)) V_1))) ∧ (¬ x2 ≤ x4 → (cI C mX7_hour [aR 24 0] V (fun x_3 V_2 => (cI C mX7_of [aR 24 0, aI x1, aI 4] V_2 (fun x_5 V_4 => ((x_5 ≤ x3 → I44 x1 x2 x3 (x4 + 1) V_4) ∧ (¬ x_5 ≤ x3 → (cI C mX7_of [aR 24 0, aI x1, aI 4] V_4 (fun x_7 V_6 => I44 x1 x2 x_7 (x4 + 1) V_6))))))))))
set_option maxRecDepth 10000 in
theorem okX7_leastRoom_44 {d : Nat} {P : Option AV → Mem → Prop} {I44 : Int32 → Int32 → Int32 → Int32 → Mem → Prop}   (x1 : Int32) (x2 : Int32) (x3 : Int32) (x4 : Int32)  (V : Mem) (hk44 : ∀ (x1 : Int32) (x2 : Int32) (x3 : Int32) (x4 : Int32), ∀ (V : Mem), I44 x1 x2 x3 x4 V → Gq (Kp (d + 1) mX7_leastRoom UM P) UM cX7_leastRoom 6 RX7 44 [(0, aR 24 0), (1, aI x1), (2, aI x2), (3, aI x3), (4, aI x4)] [] V) (h : wpX7_leastRoom_44 (Cl UM d) I44  x1 x2 x3 x4 V P) : Gq (Kp (d + 1) mX7_leastRoom UM P) UM cX7_leastRoom 6 RX7 44 [(0, aR 24 0), (1, aI x1), (2, aI x2), (3, aI x3), (4, aI x4)] [] V := by
  unfold wpX7_leastRoom_44 at h
  refine go_iload (q := 4) dX7_leastRoom_44 rfl ?_
  refine go_iload_n (q := 2) dX7_leastRoom_46 rfl rfl ?_
  refine go_icmp_ge (tgt := 83) dX7_leastRoom_47 (by decide) (fun c_9 => ?_) (fun c_9 => ?_)
  · have h := h.1 c_9
    refine go_aload_n (q := 0) dX7_leastRoom_83 rfl rfl ?_
    refine go_cVV (As := []) (st := []) (r := 24) (i := 0) mv_X7_putsBack dX7_leastRoom_84 ml_X7_161 (hr_Kp (Nat.le_refl d)) rfl rfl (mM (by decide) (by decide) rfl) rfl rfl (Nat.le_of_ble_eq_true rfl) h (fun V_1 h => ?_)
    refine go_iload_n (q := 3) dX7_leastRoom_87 rfl rfl ?_
    exact go_iret rfl dX7_leastRoom_88 h
  · have h := h.2 c_9
    refine go_aload_n (q := 0) dX7_leastRoom_50 rfl rfl ?_
    refine go_cVI (As := []) (st := []) (r := 24) (i := 0) mv_X7_hour dX7_leastRoom_51 ml_X7_152 (hr_Kp (Nat.le_refl d)) rfl rfl (mM (by decide) (by decide) rfl) rfl rfl (Nat.le_of_ble_eq_true rfl) h (fun x_3 V_2 h => ?_)
    refine go_istore (al1 := [(5, aI x_3), (0, aR 24 0), (1, aI x1), (2, aI x2), (3, aI x3), (4, aI x4)]) dX7_leastRoom_54 (by decide) rfl ?_
    refine go_aload_n (q := 1) dX7_leastRoom_56 rfl rfl ?_
    refine go_iload_n (q := 2) dX7_leastRoom_57 rfl rfl ?_
    refine go_iconst (v := 4) dX7_leastRoom_58 (by decide) ?_
    refine go_cVI (As := [aI x1, aI 4]) (st := []) (r := 24) (i := 0) mv_X7_of dX7_leastRoom_59 ml_X7_94 (hr_Kp (Nat.le_refl d)) rfl rfl (mM (by decide) (by decide) rfl) rfl rfl (Nat.le_of_ble_eq_true rfl) h (fun x_5 V_4 h => ?_)
    refine go_iload_n (q := 4) dX7_leastRoom_62 rfl rfl ?_
    refine go_icmp_le (tgt := 75) dX7_leastRoom_63 (by decide) (fun c_8 => ?_) (fun c_8 => ?_)
    · have h := h.1 c_8
      refine go_iload_n (q := 4) dX7_leastRoom_75 rfl rfl ?_
      refine go_istore_n (al1 := [(3, aI x3), (5, aI x_3), (0, aR 24 0), (1, aI x1), (2, aI x2), (4, aI x4)]) dX7_leastRoom_76 rfl (by decide) rfl ?_
      refine go_iinc (q := 5) (y := 1) (al1 := [(4, aI (x4 + 1)), (3, aI x3), (5, aI x_3), (0, aR 24 0), (1, aI x1), (2, aI x2)]) dX7_leastRoom_77 rfl (by decide) (by decide) rfl ?_
      refine go_goto (tgt := 44) dX7_leastRoom_80 (by decide) ?_
      refine go_sub (al1 := [(0, aR 24 0), (1, aI x1), (2, aI x2), (3, aI x3), (4, aI (x4 + 1))]) [3, 4, 5, 1, 0] rfl ?_
      exact hk44 x1 x2 x3 (x4 + 1)  V_4 h
    · have h := h.2 c_8
      refine go_aload_n (q := 1) dX7_leastRoom_66 rfl rfl ?_
      refine go_iload_n (q := 2) dX7_leastRoom_67 rfl rfl ?_
      refine go_iconst (v := 4) dX7_leastRoom_68 (by decide) ?_
      refine go_cVI (As := [aI x1, aI 4]) (st := []) (r := 24) (i := 0) mv_X7_of dX7_leastRoom_69 ml_X7_94 (hr_Kp (Nat.le_refl d)) rfl rfl (mM (by decide) (by decide) rfl) rfl rfl (Nat.le_of_ble_eq_true rfl) h (fun x_7 V_6 h => ?_)
      refine go_goto (tgt := 76) dX7_leastRoom_72 (by decide) ?_
      refine go_istore_n (al1 := [(3, aI x_7), (5, aI x_3), (0, aR 24 0), (1, aI x1), (2, aI x2), (4, aI x4)]) dX7_leastRoom_76 rfl (by decide) rfl ?_
      refine go_iinc (q := 5) (y := 1) (al1 := [(4, aI (x4 + 1)), (3, aI x_7), (5, aI x_3), (0, aR 24 0), (1, aI x1), (2, aI x2)]) dX7_leastRoom_77 rfl (by decide) (by decide) rfl ?_
      refine go_goto (tgt := 44) dX7_leastRoom_80 (by decide) ?_
      refine go_sub (al1 := [(0, aR 24 0), (1, aI x1), (2, aI x2), (3, aI x_7), (4, aI (x4 + 1))]) [3, 4, 5, 1, 0] rfl ?_
      exact hk44 x1 x2 x_7 (x4 + 1)  V_6 h
def wpX7_leastRoom_0 (C : CT) (I44 : Int32 → Int32 → Int32 → Int32 → Mem → Prop)  (x1 : Int32) (x2 : Int32) (V : Mem) (Q : Option AV → Mem → Prop) : Prop :=
  (cI C mX7_isRoof [aR 24 0, aI x1] V (fun x_2 V_1 => ((x_2 = 0 → Q (some (aI (-1000000001))) V_1) ∧ (¬ x_2 = 0 → (cI C mX7_in [aI x2, aI 0, aI 200] V_1 (fun x_4 V_3 => ((¬ x_4 = 0 → (cV C mX7_thinks [aR 24 0] V_3 (fun V_5 => (cV C mX7_put [aR 24 0, aI x1, aI 3, aI 99999] V_5 (fun V_6 => (cI C mX7_of [aR 24 0, aI x1, aI 4] V_6 (fun x_8 V_7 => I44 x1 x2 x_8 0 V_7))))))) ∧ (x_4 = 0 → Q (some (aI (-1000000001))) V_3))))))))
set_option maxRecDepth 10000 in
theorem okX7_leastRoom_0 {d : Nat} {P : Option AV → Mem → Prop} {I44 : Int32 → Int32 → Int32 → Int32 → Mem → Prop}   (x1 : Int32) (x2 : Int32)  (V : Mem) (hk44 : ∀ (x1 : Int32) (x2 : Int32) (x3 : Int32) (x4 : Int32), ∀ (V : Mem), I44 x1 x2 x3 x4 V → Gq (Kp (d + 1) mX7_leastRoom UM P) UM cX7_leastRoom 6 RX7 44 [(0, aR 24 0), (1, aI x1), (2, aI x2), (3, aI x3), (4, aI x4)] [] V) (h : wpX7_leastRoom_0 (Cl UM d) I44  x1 x2 V P) : Gq (Kp (d + 1) mX7_leastRoom UM P) UM cX7_leastRoom 6 RX7 0 [(0, aR 24 0), (1, aI x1), (2, aI x2)] [] V := by
  unfold wpX7_leastRoom_0 at h
  refine go_aload_n (q := 0) dX7_leastRoom_0 rfl rfl ?_
  refine go_iload_n (q := 1) dX7_leastRoom_1 rfl rfl ?_
  refine go_cVI (As := [aI x1]) (st := []) (r := 24) (i := 0) mv_X7_isRoof dX7_leastRoom_2 ml_X7_111 (hr_Kp (Nat.le_refl d)) rfl rfl (mM (by decide) (by decide) rfl) rfl rfl (Nat.le_of_ble_eq_true rfl) h (fun x_2 V_1 h => ?_)
  refine go_if_eq (tgt := 19) dX7_leastRoom_5 (by decide) (fun c_10 => ?_) (fun c_10 => ?_)
  · have h := h.1 c_10
    refine go_ldc dX7_leastRoom_19 ct_X7_84 ?_
    exact go_iret rfl dX7_leastRoom_21 h
  · have h := h.2 c_10
    refine go_iload_n (q := 2) dX7_leastRoom_8 rfl rfl ?_
    refine go_iconst (v := 0) dX7_leastRoom_9 (by decide) ?_
    refine go_sipush (v := 200) dX7_leastRoom_10 (by decide) ?_
    refine go_cSI (As := [aI x2, aI 0, aI 200]) (st := []) ms_X7_in dX7_leastRoom_13 ml_X7_76 (hr_Kp (Nat.le_refl d)) rfl rfl (Nat.le_of_ble_eq_true rfl) h (fun x_4 V_3 h => ?_)
    refine go_if_ne (tgt := 22) dX7_leastRoom_16 (by decide) (fun c_9 => ?_) (fun c_9 => ?_)
    · have h := h.1 c_9
      refine go_aload_n (q := 0) dX7_leastRoom_22 rfl rfl ?_
      refine go_cVV (As := []) (st := []) (r := 24) (i := 0) mv_X7_thinks dX7_leastRoom_23 ml_X7_164 (hr_Kp (Nat.le_refl d)) rfl rfl (mM (by decide) (by decide) rfl) rfl rfl (Nat.le_of_ble_eq_true rfl) h (fun V_5 h => ?_)
      refine go_aload_n (q := 0) dX7_leastRoom_26 rfl rfl ?_
      refine go_iload_n (q := 1) dX7_leastRoom_27 rfl rfl ?_
      refine go_iconst (v := 3) dX7_leastRoom_28 (by decide) ?_
      refine go_ldc dX7_leastRoom_29 ct_X7_173 ?_
      refine go_cVV (As := [aI x1, aI 3, aI 99999]) (st := []) (r := 24) (i := 0) mv_X7_put dX7_leastRoom_31 ml_X7_80 (hr_Kp (Nat.le_refl d)) rfl rfl (mM (by decide) (by decide) rfl) rfl rfl (Nat.le_of_ble_eq_true rfl) h (fun V_6 h => ?_)
      refine go_aload_n (q := 0) dX7_leastRoom_34 rfl rfl ?_
      refine go_iload_n (q := 1) dX7_leastRoom_35 rfl rfl ?_
      refine go_iconst (v := 4) dX7_leastRoom_36 (by decide) ?_
      refine go_cVI (As := [aI x1, aI 4]) (st := []) (r := 24) (i := 0) mv_X7_of dX7_leastRoom_37 ml_X7_94 (hr_Kp (Nat.le_refl d)) rfl rfl (mM (by decide) (by decide) rfl) rfl rfl (Nat.le_of_ble_eq_true rfl) h (fun x_8 V_7 h => ?_)
      refine go_istore_n (al1 := [(3, aI x_8), (0, aR 24 0), (1, aI x1), (2, aI x2)]) dX7_leastRoom_40 rfl (by decide) rfl ?_
      refine go_iconst (v := 0) dX7_leastRoom_41 (by decide) ?_
      refine go_istore (al1 := [(4, aI 0), (3, aI x_8), (0, aR 24 0), (1, aI x1), (2, aI x2)]) dX7_leastRoom_42 (by decide) rfl ?_
      refine go_sub (al1 := [(0, aR 24 0), (1, aI x1), (2, aI x2), (3, aI x_8), (4, aI 0)]) [2, 3, 4, 1, 0] rfl ?_
      exact hk44 x1 x2 x_8 0  V_7 h
    · have h := h.2 c_9
      refine go_ldc dX7_leastRoom_19 ct_X7_84 ?_
      exact go_iret rfl dX7_leastRoom_21 h
theorem clX7_leastRoom {d : Nat} {P : Option AV → Mem → Prop} {I44 : Int32 → Int32 → Int32 → Int32 → Mem → Prop}   (x1 : Int32) (x2 : Int32) (V : Mem) (hk44 : ∀ (x1 : Int32) (x2 : Int32) (x3 : Int32) (x4 : Int32), ∀ (V : Mem), I44 x1 x2 x3 x4 V → Gq (Kp (d + 1) mX7_leastRoom UM P) UM cX7_leastRoom 6 RX7 44 [(0, aR 24 0), (1, aI x1), (2, aI x2), (3, aI x3), (4, aI x4)] [] V) (h : wpX7_leastRoom_0 (Cl UM d) I44  x1 x2 V P) : Cl UM (d + 1) mX7_leastRoom [aR 24 0, aI x1, aI x2] V P :=
  cl_of [(0, aR 24 0), (1, aI x1), (2, aI x2)] (by decide) (fun _ => Nat.le_of_ble_eq_true rfl) (fun _ => rfl) (okX7_leastRoom_0   x1 x2 V hk44 h)
theorem dX7_slide_0 : decode cX7_slide 0 = .ok (.aload_n 0, 1) := by decide +kernel
theorem dX7_slide_1 : decode cX7_slide 1 = .ok (.invokevirtual 164, 3) := by decide +kernel
theorem dX7_slide_4 : decode cX7_slide 4 = .ok (.iconst 1, 1) := by decide +kernel
theorem dX7_slide_5 : decode cX7_slide 5 = .ok (.istore_n 1, 1) := by decide +kernel
theorem dX7_slide_6 : decode cX7_slide 6 = .ok (.iload_n 1, 1) := by decide +kernel
theorem dX7_slide_7 : decode cX7_slide 7 = .ok (.sipush 200, 3) := by decide +kernel
theorem dX7_slide_10 : decode cX7_slide 10 = .ok (.if_icmp .gt 16, 3) := by decide +kernel
theorem dX7_slide_13 : decode cX7_slide 13 = .ok (.aload_n 0, 1) := by decide +kernel
theorem dX7_slide_14 : decode cX7_slide 14 = .ok (.invokevirtual 152, 3) := by decide +kernel
theorem dX7_slide_17 : decode cX7_slide 17 = .ok (.ifCond .ne 9, 3) := by decide +kernel
theorem dX7_slide_20 : decode cX7_slide 20 = .ok (.iinc 1 1, 3) := by decide +kernel
theorem dX7_slide_23 : decode cX7_slide 23 = .ok (.goto (-17), 3) := by decide +kernel
theorem dX7_slide_26 : decode cX7_slide 26 = .ok (.aload_n 0, 1) := by decide +kernel
theorem dX7_slide_27 : decode cX7_slide 27 = .ok (.invokevirtual 161, 3) := by decide +kernel
theorem dX7_slide_30 : decode cX7_slide 30 = .ok (.iload_n 1, 1) := by decide +kernel
theorem dX7_slide_31 : decode cX7_slide 31 = .ok (.sipush 200, 3) := by decide +kernel
theorem dX7_slide_34 : decode cX7_slide 34 = .ok (.if_icmp .gt 7, 3) := by decide +kernel
theorem dX7_slide_37 : decode cX7_slide 37 = .ok (.iload_n 1, 1) := by decide +kernel
theorem dX7_slide_38 : decode cX7_slide 38 = .ok (.goto 5, 3) := by decide +kernel
theorem dX7_slide_41 : decode cX7_slide 41 = .ok (.ldc 75, 2) := by decide +kernel
theorem dX7_slide_43 : decode cX7_slide 43 = .ok (.ireturn, 1) := by decide +kernel
def wpX7_slide_26 (C : CT) (I6 : Int32 → Mem → Prop)  (x1 : Int32) (V : Mem) (Q : Option AV → Mem → Prop) : Prop :=
  (cV C mX7_putsBack [aR 24 0] V (fun V_1 => ((200 < x1 → Q (some (aI (-1000000005))) V_1) ∧ (¬ 200 < x1 → Q (some (aI x1)) V_1))))
set_option maxRecDepth 10000 in
theorem okX7_slide_26 {d : Nat} {P : Option AV → Mem → Prop} {I6 : Int32 → Mem → Prop}   (x1 : Int32)  (V : Mem) (hk6 : ∀ (x1 : Int32), ∀ (V : Mem), I6 x1 V → Gq (Kp (d + 1) mX7_slide UM P) UM cX7_slide 2 RX7 6 [(0, aR 24 0), (1, aI x1)] [] V) (h : wpX7_slide_26 (Cl UM d) I6  x1 V P) : Gq (Kp (d + 1) mX7_slide UM P) UM cX7_slide 2 RX7 26 [(0, aR 24 0), (1, aI x1)] [] V := by
  unfold wpX7_slide_26 at h
  refine go_aload_n (q := 0) dX7_slide_26 rfl rfl ?_
  refine go_cVV (As := []) (st := []) (r := 24) (i := 0) mv_X7_putsBack dX7_slide_27 ml_X7_161 (hr_Kp (Nat.le_refl d)) rfl rfl (mM (by decide) (by decide) rfl) rfl rfl (Nat.le_of_ble_eq_true rfl) h (fun V_1 h => ?_)
  refine go_iload_n (q := 1) dX7_slide_30 rfl rfl ?_
  refine go_sipush (v := 200) dX7_slide_31 (by decide) ?_
  refine go_icmp_gt (tgt := 41) dX7_slide_34 (by decide) (fun c_2 => ?_) (fun c_2 => ?_)
  · have h := h.1 c_2
    refine go_ldc dX7_slide_41 ct_X7_75 ?_
    exact go_iret rfl dX7_slide_43 h
  · have h := h.2 c_2
    refine go_iload_n (q := 1) dX7_slide_37 rfl rfl ?_
    refine go_goto (tgt := 43) dX7_slide_38 (by decide) ?_
    exact go_iret rfl dX7_slide_43 h
def wpX7_slide_6 (C : CT) (I6 : Int32 → Mem → Prop)  (x1 : Int32) (V : Mem) (Q : Option AV → Mem → Prop) : Prop :=
  ((200 < x1 → wpX7_slide_26 C I6  x1 V Q) ∧ (¬ 200 < x1 → (cI C mX7_hour [aR 24 0] V (fun x_2 V_1 => ((¬ x_2 = 0 → wpX7_slide_26 C I6  x1 V_1 Q) ∧ (x_2 = 0 → I6 (x1 + 1) V_1))))))
set_option maxRecDepth 10000 in
theorem okX7_slide_6 {d : Nat} {P : Option AV → Mem → Prop} {I6 : Int32 → Mem → Prop}   (x1 : Int32)  (V : Mem) (hk6 : ∀ (x1 : Int32), ∀ (V : Mem), I6 x1 V → Gq (Kp (d + 1) mX7_slide UM P) UM cX7_slide 2 RX7 6 [(0, aR 24 0), (1, aI x1)] [] V) (h : wpX7_slide_6 (Cl UM d) I6  x1 V P) : Gq (Kp (d + 1) mX7_slide UM P) UM cX7_slide 2 RX7 6 [(0, aR 24 0), (1, aI x1)] [] V := by
  unfold wpX7_slide_6 at h
  refine go_iload_n (q := 1) dX7_slide_6 rfl rfl ?_
  refine go_sipush (v := 200) dX7_slide_7 (by decide) ?_
  refine go_icmp_gt (tgt := 26) dX7_slide_10 (by decide) (fun c_4 => ?_) (fun c_4 => ?_)
  · have h := h.1 c_4
    exact okX7_slide_26   x1  V hk6 h
  · have h := h.2 c_4
    refine go_aload_n (q := 0) dX7_slide_13 rfl rfl ?_
    refine go_cVI (As := []) (st := []) (r := 24) (i := 0) mv_X7_hour dX7_slide_14 ml_X7_152 (hr_Kp (Nat.le_refl d)) rfl rfl (mM (by decide) (by decide) rfl) rfl rfl (Nat.le_of_ble_eq_true rfl) h (fun x_2 V_1 h => ?_)
    refine go_if_ne (tgt := 26) dX7_slide_17 (by decide) (fun c_3 => ?_) (fun c_3 => ?_)
    · have h := h.1 c_3
      exact okX7_slide_26   x1  V_1 hk6 h
    · have h := h.2 c_3
      refine go_iinc (q := 1) (y := 1) (al1 := [(1, aI (x1 + 1)), (0, aR 24 0)]) dX7_slide_20 rfl (by decide) (by decide) rfl ?_
      refine go_goto (tgt := 6) dX7_slide_23 (by decide) ?_
      refine go_sub (al1 := [(0, aR 24 0), (1, aI (x1 + 1))]) [1, 0] rfl ?_
      exact hk6 (x1 + 1)  V_1 h
def wpX7_slide_0 (C : CT) (I6 : Int32 → Mem → Prop)   (V : Mem) (Q : Option AV → Mem → Prop) : Prop :=
  (cV C mX7_thinks [aR 24 0] V (fun V_1 => I6 1 V_1))
set_option maxRecDepth 10000 in
theorem okX7_slide_0 {d : Nat} {P : Option AV → Mem → Prop} {I6 : Int32 → Mem → Prop}     (V : Mem) (hk6 : ∀ (x1 : Int32), ∀ (V : Mem), I6 x1 V → Gq (Kp (d + 1) mX7_slide UM P) UM cX7_slide 2 RX7 6 [(0, aR 24 0), (1, aI x1)] [] V) (h : wpX7_slide_0 (Cl UM d) I6   V P) : Gq (Kp (d + 1) mX7_slide UM P) UM cX7_slide 2 RX7 0 [(0, aR 24 0)] [] V := by
  unfold wpX7_slide_0 at h
  refine go_aload_n (q := 0) dX7_slide_0 rfl rfl ?_
  refine go_cVV (As := []) (st := []) (r := 24) (i := 0) mv_X7_thinks dX7_slide_1 ml_X7_164 (hr_Kp (Nat.le_refl d)) rfl rfl (mM (by decide) (by decide) rfl) rfl rfl (Nat.le_of_ble_eq_true rfl) h (fun V_1 h => ?_)
  refine go_iconst (v := 1) dX7_slide_4 (by decide) ?_
  refine go_istore_n (al1 := [(1, aI 1), (0, aR 24 0)]) dX7_slide_5 rfl (by decide) rfl ?_
  refine go_sub (al1 := [(0, aR 24 0), (1, aI 1)]) [1, 0] rfl ?_
  exact hk6 1  V_1 h
theorem clX7_slide {d : Nat} {P : Option AV → Mem → Prop} {I6 : Int32 → Mem → Prop}    (V : Mem) (hk6 : ∀ (x1 : Int32), ∀ (V : Mem), I6 x1 V → Gq (Kp (d + 1) mX7_slide UM P) UM cX7_slide 2 RX7 6 [(0, aR 24 0), (1, aI x1)] [] V) (h : wpX7_slide_0 (Cl UM d) I6   V P) : Cl UM (d + 1) mX7_slide [aR 24 0] V P :=
  cl_of [(0, aR 24 0)] (by decide) (fun _ => Nat.le_of_ble_eq_true rfl) (fun _ => rfl) (okX7_slide_0    V hk6 h)
theorem dX7_gains_0 : decode cX7_gains 0 = .ok (.iload_n 1, 1) := by decide +kernel
theorem dX7_gains_1 : decode cX7_gains 1 = .ok (.iconst 0, 1) := by decide +kernel
theorem dX7_gains_2 : decode cX7_gains 2 = .ok (.bipush 24, 2) := by decide +kernel
theorem dX7_gains_4 : decode cX7_gains 4 = .ok (.invokestatic 76, 3) := by decide +kernel
theorem dX7_gains_7 : decode cX7_gains 7 = .ok (.ifCond .eq 13, 3) := by decide +kernel
theorem dX7_gains_10 : decode cX7_gains 10 = .ok (.iload_n 2, 1) := by decide +kernel
theorem dX7_gains_11 : decode cX7_gains 11 = .ok (.iconst 1, 1) := by decide +kernel
theorem dX7_gains_12 : decode cX7_gains 12 = .ok (.bipush 72, 2) := by decide +kernel
theorem dX7_gains_14 : decode cX7_gains 14 = .ok (.invokestatic 76, 3) := by decide +kernel
theorem dX7_gains_17 : decode cX7_gains 17 = .ok (.ifCond .ne 6, 3) := by decide +kernel
theorem dX7_gains_20 : decode cX7_gains 20 = .ok (.ldc 84, 2) := by decide +kernel
theorem dX7_gains_22 : decode cX7_gains 22 = .ok (.ireturn, 1) := by decide +kernel
theorem dX7_gains_23 : decode cX7_gains 23 = .ok (.aload_n 0, 1) := by decide +kernel
theorem dX7_gains_24 : decode cX7_gains 24 = .ok (.invokevirtual 164, 3) := by decide +kernel
theorem dX7_gains_27 : decode cX7_gains 27 = .ok (.iconst (-1), 1) := by decide +kernel
theorem dX7_gains_28 : decode cX7_gains 28 = .ok (.istore_n 3, 1) := by decide +kernel
theorem dX7_gains_29 : decode cX7_gains 29 = .ok (.iconst 0, 1) := by decide +kernel
theorem dX7_gains_30 : decode cX7_gains 30 = .ok (.istore 4, 2) := by decide +kernel
theorem dX7_gains_32 : decode cX7_gains 32 = .ok (.iconst 0, 1) := by decide +kernel
theorem dX7_gains_33 : decode cX7_gains 33 = .ok (.istore 5, 2) := by decide +kernel
theorem dX7_gains_35 : decode cX7_gains 35 = .ok (.iload 5, 2) := by decide +kernel
theorem dX7_gains_37 : decode cX7_gains 37 = .ok (.aload_n 0, 1) := by decide +kernel
theorem dX7_gains_38 : decode cX7_gains 38 = .ok (.getfield 9, 3) := by decide +kernel
theorem dX7_gains_41 : decode cX7_gains 41 = .ok (.iconst 1, 1) := by decide +kernel
theorem dX7_gains_42 : decode cX7_gains 42 = .ok (.iaload, 1) := by decide +kernel
theorem dX7_gains_43 : decode cX7_gains 43 = .ok (.if_icmp .ge 76, 3) := by decide +kernel
theorem dX7_gains_46 : decode cX7_gains 46 = .ok (.aload_n 0, 1) := by decide +kernel
theorem dX7_gains_47 : decode cX7_gains 47 = .ok (.iload_n 2, 1) := by decide +kernel
theorem dX7_gains_48 : decode cX7_gains 48 = .ok (.iload 5, 2) := by decide +kernel
theorem dX7_gains_50 : decode cX7_gains 50 = .ok (.invokestatic 167, 3) := by decide +kernel
theorem dX7_gains_53 : decode cX7_gains 53 = .ok (.invokevirtual 170, 3) := by decide +kernel
theorem dX7_gains_56 : decode cX7_gains 56 = .ok (.istore 6, 2) := by decide +kernel
theorem dX7_gains_58 : decode cX7_gains 58 = .ok (.aload_n 0, 1) := by decide +kernel
theorem dX7_gains_59 : decode cX7_gains 59 = .ok (.getfield 9, 3) := by decide +kernel
theorem dX7_gains_62 : decode cX7_gains 62 = .ok (.iconst 3, 1) := by decide +kernel
theorem dX7_gains_63 : decode cX7_gains 63 = .ok (.iload_n 1, 1) := by decide +kernel
theorem dX7_gains_64 : decode cX7_gains 64 = .ok (.iastore, 1) := by decide +kernel
theorem dX7_gains_65 : decode cX7_gains 65 = .ok (.aload_n 0, 1) := by decide +kernel
theorem dX7_gains_66 : decode cX7_gains 66 = .ok (.iload_n 2, 1) := by decide +kernel
theorem dX7_gains_67 : decode cX7_gains 67 = .ok (.iload 5, 2) := by decide +kernel
theorem dX7_gains_69 : decode cX7_gains 69 = .ok (.invokestatic 167, 3) := by decide +kernel
theorem dX7_gains_72 : decode cX7_gains 72 = .ok (.invokevirtual 170, 3) := by decide +kernel
theorem dX7_gains_75 : decode cX7_gains 75 = .ok (.iload 6, 2) := by decide +kernel
theorem dX7_gains_77 : decode cX7_gains 77 = .ok (.isub, 1) := by decide +kernel
theorem dX7_gains_78 : decode cX7_gains 78 = .ok (.istore 7, 2) := by decide +kernel
theorem dX7_gains_80 : decode cX7_gains 80 = .ok (.iload_n 3, 1) := by decide +kernel
theorem dX7_gains_81 : decode cX7_gains 81 = .ok (.ifCond .lt 10, 3) := by decide +kernel
theorem dX7_gains_84 : decode cX7_gains 84 = .ok (.iload 7, 2) := by decide +kernel
theorem dX7_gains_86 : decode cX7_gains 86 = .ok (.iload 4, 2) := by decide +kernel
theorem dX7_gains_88 : decode cX7_gains 88 = .ok (.if_icmp .le 8, 3) := by decide +kernel
theorem dX7_gains_91 : decode cX7_gains 91 = .ok (.iload 5, 2) := by decide +kernel
theorem dX7_gains_93 : decode cX7_gains 93 = .ok (.goto 4, 3) := by decide +kernel
theorem dX7_gains_96 : decode cX7_gains 96 = .ok (.iload_n 3, 1) := by decide +kernel
theorem dX7_gains_97 : decode cX7_gains 97 = .ok (.istore_n 3, 1) := by decide +kernel
theorem dX7_gains_98 : decode cX7_gains 98 = .ok (.iload_n 3, 1) := by decide +kernel
theorem dX7_gains_99 : decode cX7_gains 99 = .ok (.iload 5, 2) := by decide +kernel
theorem dX7_gains_101 : decode cX7_gains 101 = .ok (.if_icmp .ne 8, 3) := by decide +kernel
theorem dX7_gains_104 : decode cX7_gains 104 = .ok (.iload 7, 2) := by decide +kernel
theorem dX7_gains_106 : decode cX7_gains 106 = .ok (.goto 5, 3) := by decide +kernel
theorem dX7_gains_109 : decode cX7_gains 109 = .ok (.iload 4, 2) := by decide +kernel
theorem dX7_gains_111 : decode cX7_gains 111 = .ok (.istore 4, 2) := by decide +kernel
theorem dX7_gains_113 : decode cX7_gains 113 = .ok (.iinc 5 1, 3) := by decide +kernel
theorem dX7_gains_116 : decode cX7_gains 116 = .ok (.goto (-81), 3) := by decide +kernel
theorem dX7_gains_119 : decode cX7_gains 119 = .ok (.iload_n 3, 1) := by decide +kernel
theorem dX7_gains_120 : decode cX7_gains 120 = .ok (.invokestatic 174, 3) := by decide +kernel
theorem dX7_gains_123 : decode cX7_gains 123 = .ok (.ireturn, 1) := by decide +kernel
def wpX7_gains_97 (C : CT) (I35 : Int32 → Int32 → Int32 → Int32 → Int32 → Mem → Prop)  (x1 : Int32) (x2 : Int32) (x3 : Int32) (x4 : Int32) (x5 : Int32) (x6 : Int32) (x7 : Int32) (s0 : Int32) (V : Mem) (Q : Option AV → Mem → Prop) : Prop :=
  ((¬ s0 = x5 → I35 x1 x2 s0 x4 (x5 + 1) V) ∧ (s0 = x5 → I35 x1 x2 s0 x7 (x5 + 1) V))
set_option maxRecDepth 10000 in
theorem okX7_gains_97 {d : Nat} {P : Option AV → Mem → Prop} {I35 : Int32 → Int32 → Int32 → Int32 → Int32 → Mem → Prop}   (x1 : Int32) (x2 : Int32) (x3 : Int32) (x4 : Int32) (x5 : Int32) (x6 : Int32) (x7 : Int32) (s0 : Int32)  (V : Mem) (hk35 : ∀ (x1 : Int32) (x2 : Int32) (x3 : Int32) (x4 : Int32) (x5 : Int32), ∀ (V : Mem), I35 x1 x2 x3 x4 x5 V → Gq (Kp (d + 1) mX7_gains UM P) UM cX7_gains 8 RX7 35 [(0, aR 24 0), (1, aI x1), (2, aI x2), (3, aI x3), (4, aI x4), (5, aI x5)] [] V) (h : wpX7_gains_97 (Cl UM d) I35  x1 x2 x3 x4 x5 x6 x7 s0 V P) : Gq (Kp (d + 1) mX7_gains UM P) UM cX7_gains 8 RX7 97 [(0, aR 24 0), (1, aI x1), (2, aI x2), (3, aI x3), (4, aI x4), (5, aI x5), (6, aI x6), (7, aI x7)] [aI s0] V := by
  unfold wpX7_gains_97 at h
  refine go_istore_n (al1 := [(3, aI s0), (0, aR 24 0), (1, aI x1), (2, aI x2), (4, aI x4), (5, aI x5), (6, aI x6), (7, aI x7)]) dX7_gains_97 rfl (by decide) rfl ?_
  refine go_iload_n (q := 0) dX7_gains_98 rfl rfl ?_
  refine go_iload (q := 5) dX7_gains_99 rfl ?_
  refine go_icmp_ne (tgt := 109) dX7_gains_101 (by decide) (fun c_1 => ?_) (fun c_1 => ?_)
  · have h := h.1 c_1
    refine go_iload (q := 4) dX7_gains_109 rfl ?_
    refine go_istore (al1 := [(4, aI x4), (3, aI s0), (0, aR 24 0), (1, aI x1), (2, aI x2), (5, aI x5), (6, aI x6), (7, aI x7)]) dX7_gains_111 (by decide) rfl ?_
    refine go_iinc (q := 5) (y := 1) (al1 := [(5, aI (x5 + 1)), (4, aI x4), (3, aI s0), (0, aR 24 0), (1, aI x1), (2, aI x2), (6, aI x6), (7, aI x7)]) dX7_gains_113 rfl (by decide) (by decide) rfl ?_
    refine go_goto (tgt := 35) dX7_gains_116 (by decide) ?_
    refine go_sub (al1 := [(0, aR 24 0), (1, aI x1), (2, aI x2), (3, aI s0), (4, aI x4), (5, aI (x5 + 1))]) [3, 4, 5, 2, 1, 0] rfl ?_
    exact hk35 x1 x2 s0 x4 (x5 + 1)  V h
  · have h := h.2 c_1
    refine go_iload (q := 7) dX7_gains_104 rfl ?_
    refine go_goto (tgt := 111) dX7_gains_106 (by decide) ?_
    refine go_istore (al1 := [(4, aI x7), (3, aI s0), (0, aR 24 0), (1, aI x1), (2, aI x2), (5, aI x5), (6, aI x6), (7, aI x7)]) dX7_gains_111 (by decide) rfl ?_
    refine go_iinc (q := 5) (y := 1) (al1 := [(5, aI (x5 + 1)), (4, aI x7), (3, aI s0), (0, aR 24 0), (1, aI x1), (2, aI x2), (6, aI x6), (7, aI x7)]) dX7_gains_113 rfl (by decide) (by decide) rfl ?_
    refine go_goto (tgt := 35) dX7_gains_116 (by decide) ?_
    refine go_sub (al1 := [(0, aR 24 0), (1, aI x1), (2, aI x2), (3, aI s0), (4, aI x7), (5, aI (x5 + 1))]) [3, 4, 5, 2, 1, 0] rfl ?_
    exact hk35 x1 x2 s0 x7 (x5 + 1)  V h
def wpX7_gains_91 (C : CT) (I35 : Int32 → Int32 → Int32 → Int32 → Int32 → Mem → Prop)  (x1 : Int32) (x2 : Int32) (x3 : Int32) (x4 : Int32) (x5 : Int32) (x6 : Int32) (x7 : Int32) (V : Mem) (Q : Option AV → Mem → Prop) : Prop :=
  wpX7_gains_97 C I35  x1 x2 x3 x4 x5 x6 x7 x5 V Q
set_option maxRecDepth 10000 in
theorem okX7_gains_91 {d : Nat} {P : Option AV → Mem → Prop} {I35 : Int32 → Int32 → Int32 → Int32 → Int32 → Mem → Prop}   (x1 : Int32) (x2 : Int32) (x3 : Int32) (x4 : Int32) (x5 : Int32) (x6 : Int32) (x7 : Int32)  (V : Mem) (hk35 : ∀ (x1 : Int32) (x2 : Int32) (x3 : Int32) (x4 : Int32) (x5 : Int32), ∀ (V : Mem), I35 x1 x2 x3 x4 x5 V → Gq (Kp (d + 1) mX7_gains UM P) UM cX7_gains 8 RX7 35 [(0, aR 24 0), (1, aI x1), (2, aI x2), (3, aI x3), (4, aI x4), (5, aI x5)] [] V) (h : wpX7_gains_91 (Cl UM d) I35  x1 x2 x3 x4 x5 x6 x7 V P) : Gq (Kp (d + 1) mX7_gains UM P) UM cX7_gains 8 RX7 91 [(0, aR 24 0), (1, aI x1), (2, aI x2), (3, aI x3), (4, aI x4), (5, aI x5), (6, aI x6), (7, aI x7)] [] V := by
  unfold wpX7_gains_91 at h
  refine go_iload (q := 5) dX7_gains_91 rfl ?_
  refine go_goto (tgt := 97) dX7_gains_93 (by decide) ?_
  exact okX7_gains_97   x1 x2 x3 x4 x5 x6 x7 x5  V hk35 h
def wpX7_gains_35 (C : CT) (I35 : Int32 → Int32 → Int32 → Int32 → Int32 → Mem → Prop)  (x1 : Int32) (x2 : Int32) (x3 : Int32) (x4 : Int32) (x5 : Int32) (V : Mem) (Q : Option AV → Mem → Prop) : Prop :=
  (((V 25 0 1) ≤ x5 → (cI C mX7_told0 [aI x3] V (fun x_2 V_1 => Q (some (aI x_2)) V_1))) ∧ (¬ (V 25 0 1) ≤ x5 → (cI C mX7_waterAt [aI x5] V (fun x_4 V_3 => (cI C mX7_behindIt [aR 24 0, aI x2, aI x_4] V_3 (fun x_6 V_5 => (∀ V_7 : Mem, V_7 = mu V_5 25 0 3 x1 → (cI C mX7_waterAt [aI x5] V_7 (fun x_9 V_8 => (cI C mX7_behindIt [aR 24 0, aI x2, aI x_9] V_8 (fun x_11 V_10 => (∀ z_12 : Int32, z_12 = (x_11 - x_6) → ((x3 < 0 → wpX7_gains_91 C I35  x1 x2 x3 x4 x5 x_6 z_12 V_10 Q) ∧ (¬ x3 < 0 → ((z_12 ≤ x4 → wpX7_gains_97 C I35  x1 x2 x3 x4 x5 x_6 z_12 x3 V_10 Q) ∧ (¬ z_12 ≤ x4 → wpX7_gains_91 C I35  x1 x2 x3 x4 x5 x_6 z_12 V_10 Q))))))))))))))))
set_option maxRecDepth 10000 in
theorem okX7_gains_35 {d : Nat} {P : Option AV → Mem → Prop} {I35 : Int32 → Int32 → Int32 → Int32 → Int32 → Mem → Prop}   (x1 : Int32) (x2 : Int32) (x3 : Int32) (x4 : Int32) (x5 : Int32)  (V : Mem) (hk35 : ∀ (x1 : Int32) (x2 : Int32) (x3 : Int32) (x4 : Int32) (x5 : Int32), ∀ (V : Mem), I35 x1 x2 x3 x4 x5 V → Gq (Kp (d + 1) mX7_gains UM P) UM cX7_gains 8 RX7 35 [(0, aR 24 0), (1, aI x1), (2, aI x2), (3, aI x3), (4, aI x4), (5, aI x5)] [] V) (h : wpX7_gains_35 (Cl UM d) I35  x1 x2 x3 x4 x5 V P) : Gq (Kp (d + 1) mX7_gains UM P) UM cX7_gains 8 RX7 35 [(0, aR 24 0), (1, aI x1), (2, aI x2), (3, aI x3), (4, aI x4), (5, aI x5)] [] V := by
  unfold wpX7_gains_35 at h
  refine go_iload (q := 5) dX7_gains_35 rfl ?_
  refine go_aload_n (q := 0) dX7_gains_37 rfl rfl ?_
  refine go_getr fg_X7_9 dX7_gains_38 (mM (by decide) (by decide) rfl) ?_
  refine go_iconst (v := 1) dX7_gains_41 (by decide) ?_
  refine go_iald (r := 25) (n := 1479) (j := 1) rfl (by decide) dX7_gains_42 (mM (by decide) (by decide) rfl) (by decide) (by decide) ?_
  refine go_icmp_ge (tgt := 119) dX7_gains_43 (by decide) (fun c_15 => ?_) (fun c_15 => ?_)
  · have h := h.1 c_15
    refine go_iload_n (q := 3) dX7_gains_119 rfl rfl ?_
    refine go_cSI (As := [aI x3]) (st := []) ms_X7_told0 dX7_gains_120 ml_X7_174 (hr_Kp (Nat.le_refl d)) rfl rfl (Nat.le_of_ble_eq_true rfl) h (fun x_2 V_1 h => ?_)
    exact go_iret rfl dX7_gains_123 h
  · have h := h.2 c_15
    refine go_aload_n (q := 0) dX7_gains_46 rfl rfl ?_
    refine go_iload_n (q := 2) dX7_gains_47 rfl rfl ?_
    refine go_iload (q := 5) dX7_gains_48 rfl ?_
    refine go_cSI (As := [aI x5]) (st := [aI x2, aR 24 0]) ms_X7_waterAt dX7_gains_50 ml_X7_167 (hr_Kp (Nat.le_refl d)) rfl rfl (Nat.le_of_ble_eq_true rfl) h (fun x_4 V_3 h => ?_)
    refine go_cVI (As := [aI x2, aI x_4]) (st := []) (r := 24) (i := 0) mv_X7_behindIt dX7_gains_53 ml_X7_170 (hr_Kp (Nat.le_refl d)) rfl rfl (mM (by decide) (by decide) rfl) rfl rfl (Nat.le_of_ble_eq_true rfl) h (fun x_6 V_5 h => ?_)
    refine go_istore (al1 := [(6, aI x_6), (0, aR 24 0), (1, aI x1), (2, aI x2), (3, aI x3), (4, aI x4), (5, aI x5)]) dX7_gains_56 (by decide) rfl ?_
    refine go_aload_n (q := 1) dX7_gains_58 rfl rfl ?_
    refine go_getr fg_X7_9 dX7_gains_59 (mM (by decide) (by decide) rfl) ?_
    refine go_iconst (v := 3) dX7_gains_62 (by decide) ?_
    refine go_iload_n (q := 2) dX7_gains_63 rfl rfl ?_
    refine go_iast (r := 25) (n := 1479) (j := 3) rfl (by decide) dX7_gains_64 (mM (by decide) (by decide) rfl) (by decide) (by decide) ?_
    refine nmV (fun V_7 e_V_7 => ?_)
    have h := h V_7 e_V_7
    refine go_aload_n (q := 1) dX7_gains_65 rfl rfl ?_
    refine go_iload_n (q := 3) dX7_gains_66 rfl rfl ?_
    refine go_iload (q := 6) dX7_gains_67 rfl ?_
    refine go_cSI (As := [aI x5]) (st := [aI x2, aR 24 0]) ms_X7_waterAt dX7_gains_69 ml_X7_167 (hr_Kp (Nat.le_refl d)) rfl rfl (Nat.le_of_ble_eq_true rfl) h (fun x_9 V_8 h => ?_)
    refine go_cVI (As := [aI x2, aI x_9]) (st := []) (r := 24) (i := 0) mv_X7_behindIt dX7_gains_72 ml_X7_170 (hr_Kp (Nat.le_refl d)) rfl rfl (mM (by decide) (by decide) rfl) rfl rfl (Nat.le_of_ble_eq_true rfl) h (fun x_11 V_10 h => ?_)
    refine go_iload (q := 0) dX7_gains_75 rfl ?_
    refine go_isub dX7_gains_77 ?_
    refine nmI (fun z_12 e_z_12 => ?_)
    have h := h z_12 e_z_12
    refine go_istore (al1 := [(7, aI z_12), (6, aI x_6), (0, aR 24 0), (1, aI x1), (2, aI x2), (3, aI x3), (4, aI x4), (5, aI x5)]) dX7_gains_78 (by decide) rfl ?_
    refine go_iload_n (q := 5) dX7_gains_80 rfl rfl ?_
    refine go_if_lt (tgt := 91) dX7_gains_81 (by decide) (fun c_14 => ?_) (fun c_14 => ?_)
    · have h := h.1 c_14
      refine go_sub (al1 := [(0, aR 24 0), (1, aI x1), (2, aI x2), (3, aI x3), (4, aI x4), (5, aI x5), (6, aI x_6), (7, aI z_12)]) [2, 3, 4, 5, 6, 7, 1, 0] rfl ?_
      exact okX7_gains_91   x1 x2 x3 x4 x5 x_6 z_12  V_10 hk35 h
    · have h := h.2 c_14
      refine go_iload (q := 0) dX7_gains_84 rfl ?_
      refine go_iload (q := 6) dX7_gains_86 rfl ?_
      refine go_icmp_le (tgt := 96) dX7_gains_88 (by decide) (fun c_13 => ?_) (fun c_13 => ?_)
      · have h := h.1 c_13
        refine go_iload_n (q := 5) dX7_gains_96 rfl rfl ?_
        refine go_sub (al1 := [(0, aR 24 0), (1, aI x1), (2, aI x2), (3, aI x3), (4, aI x4), (5, aI x5), (6, aI x_6), (7, aI z_12)]) [2, 3, 4, 5, 6, 7, 1, 0] rfl ?_
        exact okX7_gains_97   x1 x2 x3 x4 x5 x_6 z_12 x3  V_10 hk35 h
      · have h := h.2 c_13
        refine go_sub (al1 := [(0, aR 24 0), (1, aI x1), (2, aI x2), (3, aI x3), (4, aI x4), (5, aI x5), (6, aI x_6), (7, aI z_12)]) [2, 3, 4, 5, 6, 7, 1, 0] rfl ?_
        exact okX7_gains_91   x1 x2 x3 x4 x5 x_6 z_12  V_10 hk35 h
def wpX7_gains_0 (C : CT) (I35 : Int32 → Int32 → Int32 → Int32 → Int32 → Mem → Prop)  (x1 : Int32) (x2 : Int32) (V : Mem) (Q : Option AV → Mem → Prop) : Prop :=
  (cI C mX7_in [aI x1, aI 0, aI 24] V (fun x_2 V_1 => ((x_2 = 0 → Q (some (aI (-1000000001))) V_1) ∧ (¬ x_2 = 0 → (cI C mX7_in [aI x2, aI 1, aI 72] V_1 (fun x_4 V_3 => ((¬ x_4 = 0 → (cV C mX7_thinks [aR 24 0] V_3 (fun V_5 => I35 x1 x2 (-1) 0 0 V_5))) ∧ (x_4 = 0 → Q (some (aI (-1000000001))) V_3))))))))
set_option maxRecDepth 10000 in
theorem okX7_gains_0 {d : Nat} {P : Option AV → Mem → Prop} {I35 : Int32 → Int32 → Int32 → Int32 → Int32 → Mem → Prop}   (x1 : Int32) (x2 : Int32)  (V : Mem) (hk35 : ∀ (x1 : Int32) (x2 : Int32) (x3 : Int32) (x4 : Int32) (x5 : Int32), ∀ (V : Mem), I35 x1 x2 x3 x4 x5 V → Gq (Kp (d + 1) mX7_gains UM P) UM cX7_gains 8 RX7 35 [(0, aR 24 0), (1, aI x1), (2, aI x2), (3, aI x3), (4, aI x4), (5, aI x5)] [] V) (h : wpX7_gains_0 (Cl UM d) I35  x1 x2 V P) : Gq (Kp (d + 1) mX7_gains UM P) UM cX7_gains 8 RX7 0 [(0, aR 24 0), (1, aI x1), (2, aI x2)] [] V := by
  unfold wpX7_gains_0 at h
  refine go_iload_n (q := 1) dX7_gains_0 rfl rfl ?_
  refine go_iconst (v := 0) dX7_gains_1 (by decide) ?_
  refine go_bipush (v := 24) dX7_gains_2 (by decide) ?_
  refine go_cSI (As := [aI x1, aI 0, aI 24]) (st := []) ms_X7_in dX7_gains_4 ml_X7_76 (hr_Kp (Nat.le_refl d)) rfl rfl (Nat.le_of_ble_eq_true rfl) h (fun x_2 V_1 h => ?_)
  refine go_if_eq (tgt := 20) dX7_gains_7 (by decide) (fun c_7 => ?_) (fun c_7 => ?_)
  · have h := h.1 c_7
    refine go_ldc dX7_gains_20 ct_X7_84 ?_
    exact go_iret rfl dX7_gains_22 h
  · have h := h.2 c_7
    refine go_iload_n (q := 2) dX7_gains_10 rfl rfl ?_
    refine go_iconst (v := 1) dX7_gains_11 (by decide) ?_
    refine go_bipush (v := 72) dX7_gains_12 (by decide) ?_
    refine go_cSI (As := [aI x2, aI 1, aI 72]) (st := []) ms_X7_in dX7_gains_14 ml_X7_76 (hr_Kp (Nat.le_refl d)) rfl rfl (Nat.le_of_ble_eq_true rfl) h (fun x_4 V_3 h => ?_)
    refine go_if_ne (tgt := 23) dX7_gains_17 (by decide) (fun c_6 => ?_) (fun c_6 => ?_)
    · have h := h.1 c_6
      refine go_aload_n (q := 0) dX7_gains_23 rfl rfl ?_
      refine go_cVV (As := []) (st := []) (r := 24) (i := 0) mv_X7_thinks dX7_gains_24 ml_X7_164 (hr_Kp (Nat.le_refl d)) rfl rfl (mM (by decide) (by decide) rfl) rfl rfl (Nat.le_of_ble_eq_true rfl) h (fun V_5 h => ?_)
      refine go_iconst (v := (-1)) dX7_gains_27 (by decide) ?_
      refine go_istore_n (al1 := [(3, aI (-1)), (0, aR 24 0), (1, aI x1), (2, aI x2)]) dX7_gains_28 rfl (by decide) rfl ?_
      refine go_iconst (v := 0) dX7_gains_29 (by decide) ?_
      refine go_istore (al1 := [(4, aI 0), (3, aI (-1)), (0, aR 24 0), (1, aI x1), (2, aI x2)]) dX7_gains_30 (by decide) rfl ?_
      refine go_iconst (v := 0) dX7_gains_32 (by decide) ?_
      refine go_istore (al1 := [(5, aI 0), (4, aI 0), (3, aI (-1)), (0, aR 24 0), (1, aI x1), (2, aI x2)]) dX7_gains_33 (by decide) rfl ?_
      refine go_sub (al1 := [(0, aR 24 0), (1, aI x1), (2, aI x2), (3, aI (-1)), (4, aI 0), (5, aI 0)]) [3, 4, 5, 2, 1, 0] rfl ?_
      exact hk35 x1 x2 (-1) 0 0  V_5 h
    · have h := h.2 c_6
      refine go_ldc dX7_gains_20 ct_X7_84 ?_
      exact go_iret rfl dX7_gains_22 h
theorem clX7_gains {d : Nat} {P : Option AV → Mem → Prop} {I35 : Int32 → Int32 → Int32 → Int32 → Int32 → Mem → Prop}   (x1 : Int32) (x2 : Int32) (V : Mem) (hk35 : ∀ (x1 : Int32) (x2 : Int32) (x3 : Int32) (x4 : Int32) (x5 : Int32), ∀ (V : Mem), I35 x1 x2 x3 x4 x5 V → Gq (Kp (d + 1) mX7_gains UM P) UM cX7_gains 8 RX7 35 [(0, aR 24 0), (1, aI x1), (2, aI x2), (3, aI x3), (4, aI x4), (5, aI x5)] [] V) (h : wpX7_gains_0 (Cl UM d) I35  x1 x2 V P) : Cl UM (d + 1) mX7_gains [aR 24 0, aI x1, aI x2] V P :=
  cl_of [(0, aR 24 0), (1, aI x1), (2, aI x2)] (by decide) (fun _ => Nat.le_of_ble_eq_true rfl) (fun _ => rfl) (okX7_gains_0   x1 x2 V hk35 h)
theorem dX7_offBy_0 : decode cX7_offBy 0 = .ok (.aload_n 0, 1) := by decide +kernel
theorem dX7_offBy_1 : decode cX7_offBy 1 = .ok (.getfield 9, 3) := by decide +kernel
theorem dX7_offBy_4 : decode cX7_offBy 4 = .ok (.iconst 3, 1) := by decide +kernel
theorem dX7_offBy_5 : decode cX7_offBy 5 = .ok (.iload_n 2, 1) := by decide +kernel
theorem dX7_offBy_6 : decode cX7_offBy 6 = .ok (.iastore, 1) := by decide +kernel
theorem dX7_offBy_7 : decode cX7_offBy 7 = .ok (.lconst 0, 1) := by decide +kernel
theorem dX7_offBy_8 : decode cX7_offBy 8 = .ok (.lstore_n 3, 1) := by decide +kernel
theorem dX7_offBy_9 : decode cX7_offBy 9 = .ok (.iconst 0, 1) := by decide +kernel
theorem dX7_offBy_10 : decode cX7_offBy 10 = .ok (.istore 5, 2) := by decide +kernel
theorem dX7_offBy_12 : decode cX7_offBy 12 = .ok (.iload 5, 2) := by decide +kernel
theorem dX7_offBy_14 : decode cX7_offBy 14 = .ok (.aload_n 0, 1) := by decide +kernel
theorem dX7_offBy_15 : decode cX7_offBy 15 = .ok (.getfield 51, 3) := by decide +kernel
theorem dX7_offBy_18 : decode cX7_offBy 18 = .ok (.iload_n 1, 1) := by decide +kernel
theorem dX7_offBy_19 : decode cX7_offBy 19 = .ok (.iaload, 1) := by decide +kernel
theorem dX7_offBy_20 : decode cX7_offBy 20 = .ok (.if_icmp .ge 71, 3) := by decide +kernel
theorem dX7_offBy_23 : decode cX7_offBy 23 = .ok (.aload_n 0, 1) := by decide +kernel
theorem dX7_offBy_24 : decode cX7_offBy 24 = .ok (.getfield 54, 3) := by decide +kernel
theorem dX7_offBy_27 : decode cX7_offBy 27 = .ok (.bipush 24, 2) := by decide +kernel
theorem dX7_offBy_29 : decode cX7_offBy 29 = .ok (.iload_n 1, 1) := by decide +kernel
theorem dX7_offBy_30 : decode cX7_offBy 30 = .ok (.imul, 1) := by decide +kernel
theorem dX7_offBy_31 : decode cX7_offBy 31 = .ok (.iload 5, 2) := by decide +kernel
theorem dX7_offBy_33 : decode cX7_offBy 33 = .ok (.iadd, 1) := by decide +kernel
theorem dX7_offBy_34 : decode cX7_offBy 34 = .ok (.iaload, 1) := by decide +kernel
theorem dX7_offBy_35 : decode cX7_offBy 35 = .ok (.istore 6, 2) := by decide +kernel
theorem dX7_offBy_37 : decode cX7_offBy 37 = .ok (.iload 6, 2) := by decide +kernel
theorem dX7_offBy_39 : decode cX7_offBy 39 = .ok (.i2l, 1) := by decide +kernel
theorem dX7_offBy_40 : decode cX7_offBy 40 = .ok (.aload_n 0, 1) := by decide +kernel
theorem dX7_offBy_41 : decode cX7_offBy 41 = .ok (.getfield 9, 3) := by decide +kernel
theorem dX7_offBy_44 : decode cX7_offBy 44 = .ok (.iconst 5, 1) := by decide +kernel
theorem dX7_offBy_45 : decode cX7_offBy 45 = .ok (.iaload, 1) := by decide +kernel
theorem dX7_offBy_46 : decode cX7_offBy 46 = .ok (.i2l, 1) := by decide +kernel
theorem dX7_offBy_47 : decode cX7_offBy 47 = .ok (.lsub, 1) := by decide +kernel
theorem dX7_offBy_48 : decode cX7_offBy 48 = .ok (.lstore 7, 2) := by decide +kernel
theorem dX7_offBy_50 : decode cX7_offBy 50 = .ok (.lload_n 3, 1) := by decide +kernel
theorem dX7_offBy_51 : decode cX7_offBy 51 = .ok (.iload 6, 2) := by decide +kernel
theorem dX7_offBy_53 : decode cX7_offBy 53 = .ok (.ldc 75, 2) := by decide +kernel
theorem dX7_offBy_55 : decode cX7_offBy 55 = .ok (.if_icmp .ne 7, 3) := by decide +kernel
theorem dX7_offBy_58 : decode cX7_offBy 58 = .ok (.lconst 0, 1) := by decide +kernel
theorem dX7_offBy_59 : decode cX7_offBy 59 = .ok (.goto 18, 3) := by decide +kernel
theorem dX7_offBy_62 : decode cX7_offBy 62 = .ok (.lload 7, 2) := by decide +kernel
theorem dX7_offBy_64 : decode cX7_offBy 64 = .ok (.lconst 0, 1) := by decide +kernel
theorem dX7_offBy_65 : decode cX7_offBy 65 = .ok (.lcmp, 1) := by decide +kernel
theorem dX7_offBy_66 : decode cX7_offBy 66 = .ok (.ifCond .ge 9, 3) := by decide +kernel
theorem dX7_offBy_69 : decode cX7_offBy 69 = .ok (.lload 7, 2) := by decide +kernel
theorem dX7_offBy_71 : decode cX7_offBy 71 = .ok (.lneg, 1) := by decide +kernel
theorem dX7_offBy_72 : decode cX7_offBy 72 = .ok (.goto 5, 3) := by decide +kernel
theorem dX7_offBy_75 : decode cX7_offBy 75 = .ok (.lload 7, 2) := by decide +kernel
theorem dX7_offBy_77 : decode cX7_offBy 77 = .ok (.ladd, 1) := by decide +kernel
theorem dX7_offBy_78 : decode cX7_offBy 78 = .ok (.lstore_n 3, 1) := by decide +kernel
theorem dX7_offBy_79 : decode cX7_offBy 79 = .ok (.aload_n 0, 1) := by decide +kernel
theorem dX7_offBy_80 : decode cX7_offBy 80 = .ok (.invokevirtual 152, 3) := by decide +kernel
theorem dX7_offBy_83 : decode cX7_offBy 83 = .ok (.istore 9, 2) := by decide +kernel
theorem dX7_offBy_85 : decode cX7_offBy 85 = .ok (.iinc 5 1, 3) := by decide +kernel
theorem dX7_offBy_88 : decode cX7_offBy 88 = .ok (.goto (-76), 3) := by decide +kernel
theorem dX7_offBy_91 : decode cX7_offBy 91 = .ok (.aload_n 0, 1) := by decide +kernel
theorem dX7_offBy_92 : decode cX7_offBy 92 = .ok (.invokevirtual 161, 3) := by decide +kernel
theorem dX7_offBy_95 : decode cX7_offBy 95 = .ok (.lload_n 3, 1) := by decide +kernel
theorem dX7_offBy_96 : decode cX7_offBy 96 = .ok (.lreturn, 1) := by decide +kernel
def wpX7_offBy_12 (C : CT) (I12 : Int32 → Int32 → Int64 → Int32 → Mem → Prop)  (x1 : Int32) (x2 : Int32) (y3 : Int64) (x5 : Int32) (V : Mem) (Q : Option AV → Mem → Prop) : Prop :=
  (∃ j_1 : Nat, x1 = nI j_1 ∧ j_1 < 4 ∧ (((V 38 0 j_1) ≤ x5 → (cV C mX7_putsBack [aR 24 0] V (fun V_2 => Q (some (aL y3)) V_2))) ∧ (¬ (V 38 0 j_1) ≤ x5 → (∃ j_3 : Nat, ((24 * x1) + x5) = nI j_3 ∧ j_3 < 96 ∧ (∀ z_4 : Int32, z_4 = (V 39 0 j_3) → (∀ z_5 : Int64, z_5 = (((z_4 : Int32).toInt64) - (((V 25 0 5) : Int32).toInt64)) → ((¬ z_4 = (-1000000005) → ((0 ≤ (lg_cmp z_5 0) → (∀ z_6 : Int64, z_6 = (y3 + z_5) → (cI C mX7_hour [aR 24 0] V (fun x_8 V_7 => I12 x1 x2 z_6 (x5 + 1) V_7)))) ∧ (¬ 0 ≤ (lg_cmp z_5 0) → (∀ z_9 : Int64, z_9 = (y3 + (-z_5)) → (cI C mX7_hour [aR 24 0] V (fun x_11 V_10 => I12 x1 x2 z_9 (x5 + 1) V_10)))))) ∧ (z_4 = (-1000000005) → (∀ z_13 : Int64, z_13 = (y3 + 0) → (cI C mX7_hour [aR 24 0] V (fun x_15 V_14 => I12 x1 x2 z_13 (x5 + 1) V_14)))))))))))
set_option maxRecDepth 10000 in
theorem okX7_offBy_12 {d : Nat} {P : Option AV → Mem → Prop} {I12 : Int32 → Int32 → Int64 → Int32 → Mem → Prop}   (x1 : Int32) (x2 : Int32) (y3 : Int64) (x5 : Int32)  (V : Mem) (hk12 : ∀ (x1 : Int32) (x2 : Int32) (y3 : Int64) (x5 : Int32), ∀ (V : Mem), I12 x1 x2 y3 x5 V → Gq (Kp (d + 1) mX7_offBy UM P) UM cX7_offBy 10 RX7 12 [(0, aR 24 0), (1, aI x1), (2, aI x2), (3, aL y3), (5, aI x5)] [] V) (h : wpX7_offBy_12 (Cl UM d) I12  x1 x2 y3 x5 V P) : Gq (Kp (d + 1) mX7_offBy UM P) UM cX7_offBy 10 RX7 12 [(0, aR 24 0), (1, aI x1), (2, aI x2), (3, aL y3), (5, aI x5)] [] V := by
  unfold wpX7_offBy_12 at h
  refine go_iload (q := 4) dX7_offBy_12 rfl ?_
  refine go_aload_n (q := 0) dX7_offBy_14 rfl rfl ?_
  refine go_getr fg_X7_51 dX7_offBy_15 (mM (by decide) (by decide) rfl) ?_
  refine go_iload_n (q := 1) dX7_offBy_18 rfl rfl ?_
  obtain ⟨j_1, e_j_1, l_j_1, h⟩ := h
  refine go_iald (r := 38) (n := 4) (j := j_1) rfl (by decide) dX7_offBy_19 (mM (by decide) (by decide) rfl) e_j_1 l_j_1 ?_
  refine go_icmp_ge (tgt := 91) dX7_offBy_20 (by decide) (fun c_17 => ?_) (fun c_17 => ?_)
  · have h := h.1 c_17
    refine go_aload_n (q := 0) dX7_offBy_91 rfl rfl ?_
    refine go_cVV (As := []) (st := []) (r := 24) (i := 0) mv_X7_putsBack dX7_offBy_92 ml_X7_161 (hr_Kp (Nat.le_refl d)) rfl rfl (mM (by decide) (by decide) rfl) rfl rfl (Nat.le_of_ble_eq_true rfl) h (fun V_2 h => ?_)
    refine go_lload_n (q := 3) dX7_offBy_95 rfl rfl ?_
    exact go_lret rfl dX7_offBy_96 h
  · have h := h.2 c_17
    refine go_aload_n (q := 0) dX7_offBy_23 rfl rfl ?_
    refine go_getr fg_X7_54 dX7_offBy_24 (mM (by decide) (by decide) rfl) ?_
    refine go_bipush (v := 24) dX7_offBy_27 (by decide) ?_
    refine go_iload_n (q := 1) dX7_offBy_29 rfl rfl ?_
    refine go_imul dX7_offBy_30 ?_
    refine go_iload (q := 4) dX7_offBy_31 rfl ?_
    refine go_iadd dX7_offBy_33 ?_
    obtain ⟨j_3, e_j_3, l_j_3, h⟩ := h
    refine go_iald (r := 39) (n := 96) (j := j_3) rfl (by decide) dX7_offBy_34 (mM (by decide) (by decide) rfl) e_j_3 l_j_3 ?_
    refine nmI (fun z_4 e_z_4 => ?_)
    have h := h z_4 e_z_4
    refine go_istore (al1 := [(6, aI z_4), (0, aR 24 0), (1, aI x1), (2, aI x2), (3, aL y3), (5, aI x5)]) dX7_offBy_35 (by decide) rfl ?_
    refine go_iload (q := 0) dX7_offBy_37 rfl ?_
    refine go_i2l dX7_offBy_39 ?_
    refine go_aload_n (q := 1) dX7_offBy_40 rfl rfl ?_
    refine go_getr fg_X7_9 dX7_offBy_41 (mM (by decide) (by decide) rfl) ?_
    refine go_iconst (v := 5) dX7_offBy_44 (by decide) ?_
    refine go_iald (r := 25) (n := 1479) (j := 5) rfl (by decide) dX7_offBy_45 (mM (by decide) (by decide) rfl) (by decide) (by decide) ?_
    refine go_i2l dX7_offBy_46 ?_
    refine go_lsub dX7_offBy_47 ?_
    refine nmL (fun z_5 e_z_5 => ?_)
    have h := h z_5 e_z_5
    refine go_lstore (al1 := [(7, aL z_5), (6, aI z_4), (0, aR 24 0), (1, aI x1), (2, aI x2), (3, aL y3), (5, aI x5)]) dX7_offBy_48 (by decide) rfl ?_
    refine go_lload_n (q := 5) dX7_offBy_50 rfl rfl ?_
    refine go_iload (q := 1) dX7_offBy_51 rfl ?_
    refine go_ldc dX7_offBy_53 ct_X7_75 ?_
    refine go_icmp_ne (tgt := 62) dX7_offBy_55 (by decide) (fun c_16 => ?_) (fun c_16 => ?_)
    · have h := h.1 c_16
      refine go_lload (q := 0) dX7_offBy_62 rfl ?_
      refine go_lconst (v := 0) dX7_offBy_64 (by decide) ?_
      refine go_lcmp dX7_offBy_65 ?_
      refine go_if_ge (tgt := 75) dX7_offBy_66 (by decide) (fun c_12 => ?_) (fun c_12 => ?_)
      · have h := h.1 c_12
        refine go_lload (q := 0) dX7_offBy_75 rfl ?_
        refine go_ladd dX7_offBy_77 ?_
        refine nmL (fun z_6 e_z_6 => ?_)
        have h := h z_6 e_z_6
        refine go_lstore_n (al1 := [(3, aL z_6), (7, aL z_5), (6, aI z_4), (0, aR 24 0), (1, aI x1), (2, aI x2), (5, aI x5)]) dX7_offBy_78 rfl (by decide) rfl ?_
        refine go_aload_n (q := 3) dX7_offBy_79 rfl rfl ?_
        refine go_cVI (As := []) (st := []) (r := 24) (i := 0) mv_X7_hour dX7_offBy_80 ml_X7_152 (hr_Kp (Nat.le_refl d)) rfl rfl (mM (by decide) (by decide) rfl) rfl rfl (Nat.le_of_ble_eq_true rfl) h (fun x_8 V_7 h => ?_)
        refine go_istore (al1 := [(9, aI x_8), (3, aL z_6), (7, aL z_5), (6, aI z_4), (0, aR 24 0), (1, aI x1), (2, aI x2), (5, aI x5)]) dX7_offBy_83 (by decide) rfl ?_
        refine go_iinc (q := 7) (y := 1) (al1 := [(5, aI (x5 + 1)), (9, aI x_8), (3, aL z_6), (7, aL z_5), (6, aI z_4), (0, aR 24 0), (1, aI x1), (2, aI x2)]) dX7_offBy_85 rfl (by decide) (by decide) rfl ?_
        refine go_goto (tgt := 12) dX7_offBy_88 (by decide) ?_
        refine go_sub (al1 := [(0, aR 24 0), (1, aI x1), (2, aI x2), (3, aL z_6), (5, aI (x5 + 1))]) [5, 6, 7, 2, 0] rfl ?_
        exact hk12 x1 x2 z_6 (x5 + 1)  V_7 h
      · have h := h.2 c_12
        refine go_lload (q := 0) dX7_offBy_69 rfl ?_
        refine go_lneg dX7_offBy_71 ?_
        refine go_goto (tgt := 77) dX7_offBy_72 (by decide) ?_
        refine go_ladd dX7_offBy_77 ?_
        refine nmL (fun z_9 e_z_9 => ?_)
        have h := h z_9 e_z_9
        refine go_lstore_n (al1 := [(3, aL z_9), (7, aL z_5), (6, aI z_4), (0, aR 24 0), (1, aI x1), (2, aI x2), (5, aI x5)]) dX7_offBy_78 rfl (by decide) rfl ?_
        refine go_aload_n (q := 3) dX7_offBy_79 rfl rfl ?_
        refine go_cVI (As := []) (st := []) (r := 24) (i := 0) mv_X7_hour dX7_offBy_80 ml_X7_152 (hr_Kp (Nat.le_refl d)) rfl rfl (mM (by decide) (by decide) rfl) rfl rfl (Nat.le_of_ble_eq_true rfl) h (fun x_11 V_10 h => ?_)
        refine go_istore (al1 := [(9, aI x_11), (3, aL z_9), (7, aL z_5), (6, aI z_4), (0, aR 24 0), (1, aI x1), (2, aI x2), (5, aI x5)]) dX7_offBy_83 (by decide) rfl ?_
        refine go_iinc (q := 7) (y := 1) (al1 := [(5, aI (x5 + 1)), (9, aI x_11), (3, aL z_9), (7, aL z_5), (6, aI z_4), (0, aR 24 0), (1, aI x1), (2, aI x2)]) dX7_offBy_85 rfl (by decide) (by decide) rfl ?_
        refine go_goto (tgt := 12) dX7_offBy_88 (by decide) ?_
        refine go_sub (al1 := [(0, aR 24 0), (1, aI x1), (2, aI x2), (3, aL z_9), (5, aI (x5 + 1))]) [5, 6, 7, 2, 0] rfl ?_
        exact hk12 x1 x2 z_9 (x5 + 1)  V_10 h
    · have h := h.2 c_16
      refine go_lconst (v := 0) dX7_offBy_58 (by decide) ?_
      refine go_goto (tgt := 77) dX7_offBy_59 (by decide) ?_
      refine go_ladd dX7_offBy_77 ?_
      refine nmL (fun z_13 e_z_13 => ?_)
      have h := h z_13 e_z_13
      refine go_lstore_n (al1 := [(3, aL z_13), (7, aL z_5), (6, aI z_4), (0, aR 24 0), (1, aI x1), (2, aI x2), (5, aI x5)]) dX7_offBy_78 rfl (by decide) rfl ?_
      refine go_aload_n (q := 3) dX7_offBy_79 rfl rfl ?_
      refine go_cVI (As := []) (st := []) (r := 24) (i := 0) mv_X7_hour dX7_offBy_80 ml_X7_152 (hr_Kp (Nat.le_refl d)) rfl rfl (mM (by decide) (by decide) rfl) rfl rfl (Nat.le_of_ble_eq_true rfl) h (fun x_15 V_14 h => ?_)
      refine go_istore (al1 := [(9, aI x_15), (3, aL z_13), (7, aL z_5), (6, aI z_4), (0, aR 24 0), (1, aI x1), (2, aI x2), (5, aI x5)]) dX7_offBy_83 (by decide) rfl ?_
      refine go_iinc (q := 7) (y := 1) (al1 := [(5, aI (x5 + 1)), (9, aI x_15), (3, aL z_13), (7, aL z_5), (6, aI z_4), (0, aR 24 0), (1, aI x1), (2, aI x2)]) dX7_offBy_85 rfl (by decide) (by decide) rfl ?_
      refine go_goto (tgt := 12) dX7_offBy_88 (by decide) ?_
      refine go_sub (al1 := [(0, aR 24 0), (1, aI x1), (2, aI x2), (3, aL z_13), (5, aI (x5 + 1))]) [5, 6, 7, 2, 0] rfl ?_
      exact hk12 x1 x2 z_13 (x5 + 1)  V_14 h
def wpX7_offBy_0 (C : CT) (I12 : Int32 → Int32 → Int64 → Int32 → Mem → Prop)  (x1 : Int32) (x2 : Int32) (V : Mem) (Q : Option AV → Mem → Prop) : Prop :=
  (∀ V_1 : Mem, V_1 = mu V 25 0 3 x2 → I12 x1 x2 0 0 V_1)
set_option maxRecDepth 10000 in
theorem okX7_offBy_0 {d : Nat} {P : Option AV → Mem → Prop} {I12 : Int32 → Int32 → Int64 → Int32 → Mem → Prop}   (x1 : Int32) (x2 : Int32)  (V : Mem) (hk12 : ∀ (x1 : Int32) (x2 : Int32) (y3 : Int64) (x5 : Int32), ∀ (V : Mem), I12 x1 x2 y3 x5 V → Gq (Kp (d + 1) mX7_offBy UM P) UM cX7_offBy 10 RX7 12 [(0, aR 24 0), (1, aI x1), (2, aI x2), (3, aL y3), (5, aI x5)] [] V) (h : wpX7_offBy_0 (Cl UM d) I12  x1 x2 V P) : Gq (Kp (d + 1) mX7_offBy UM P) UM cX7_offBy 10 RX7 0 [(0, aR 24 0), (1, aI x1), (2, aI x2)] [] V := by
  unfold wpX7_offBy_0 at h
  refine go_aload_n (q := 0) dX7_offBy_0 rfl rfl ?_
  refine go_getr fg_X7_9 dX7_offBy_1 (mM (by decide) (by decide) rfl) ?_
  refine go_iconst (v := 3) dX7_offBy_4 (by decide) ?_
  refine go_iload_n (q := 2) dX7_offBy_5 rfl rfl ?_
  refine go_iast (r := 25) (n := 1479) (j := 3) rfl (by decide) dX7_offBy_6 (mM (by decide) (by decide) rfl) (by decide) (by decide) ?_
  refine nmV (fun V_1 e_V_1 => ?_)
  have h := h V_1 e_V_1
  refine go_lconst (v := 0) dX7_offBy_7 (by decide) ?_
  refine go_lstore_n (al1 := [(3, aL 0), (0, aR 24 0), (1, aI x1), (2, aI x2)]) dX7_offBy_8 rfl (by decide) rfl ?_
  refine go_iconst (v := 0) dX7_offBy_9 (by decide) ?_
  refine go_istore (al1 := [(5, aI 0), (3, aL 0), (0, aR 24 0), (1, aI x1), (2, aI x2)]) dX7_offBy_10 (by decide) rfl ?_
  refine go_sub (al1 := [(0, aR 24 0), (1, aI x1), (2, aI x2), (3, aL 0), (5, aI 0)]) [2, 3, 4, 1, 0] rfl ?_
  exact hk12 x1 x2 0 0  V_1 h
theorem clX7_offBy {d : Nat} {P : Option AV → Mem → Prop} {I12 : Int32 → Int32 → Int64 → Int32 → Mem → Prop}   (x1 : Int32) (x2 : Int32) (V : Mem) (hk12 : ∀ (x1 : Int32) (x2 : Int32) (y3 : Int64) (x5 : Int32), ∀ (V : Mem), I12 x1 x2 y3 x5 V → Gq (Kp (d + 1) mX7_offBy UM P) UM cX7_offBy 10 RX7 12 [(0, aR 24 0), (1, aI x1), (2, aI x2), (3, aL y3), (5, aI x5)] [] V) (h : wpX7_offBy_0 (Cl UM d) I12  x1 x2 V P) : Cl UM (d + 1) mX7_offBy [aR 24 0, aI x1, aI x2] V P :=
  cl_of [(0, aR 24 0), (1, aI x1), (2, aI x2)] (by decide) (fun _ => Nat.le_of_ble_eq_true rfl) (fun _ => rfl) (okX7_offBy_0   x1 x2 V hk12 h)
theorem dX7_explained_0 : decode cX7_explained 0 = .ok (.iload_n 1, 1) := by decide +kernel
theorem dX7_explained_1 : decode cX7_explained 1 = .ok (.invokestatic 177, 3) := by decide +kernel
theorem dX7_explained_4 : decode cX7_explained 4 = .ok (.ifCond .eq 12, 3) := by decide +kernel
theorem dX7_explained_7 : decode cX7_explained 7 = .ok (.iload_n 2, 1) := by decide +kernel
theorem dX7_explained_8 : decode cX7_explained 8 = .ok (.iconst 0, 1) := by decide +kernel
theorem dX7_explained_9 : decode cX7_explained 9 = .ok (.iconst 1, 1) := by decide +kernel
theorem dX7_explained_10 : decode cX7_explained 10 = .ok (.invokestatic 76, 3) := by decide +kernel
theorem dX7_explained_13 : decode cX7_explained 13 = .ok (.ifCond .ne 6, 3) := by decide +kernel
theorem dX7_explained_16 : decode cX7_explained 16 = .ok (.ldc 84, 2) := by decide +kernel
theorem dX7_explained_18 : decode cX7_explained 18 = .ok (.ireturn, 1) := by decide +kernel
theorem dX7_explained_19 : decode cX7_explained 19 = .ok (.aload_n 0, 1) := by decide +kernel
theorem dX7_explained_20 : decode cX7_explained 20 = .ok (.getfield 48, 3) := by decide +kernel
theorem dX7_explained_23 : decode cX7_explained 23 = .ok (.iload_n 1, 1) := by decide +kernel
theorem dX7_explained_24 : decode cX7_explained 24 = .ok (.iaload, 1) := by decide +kernel
theorem dX7_explained_25 : decode cX7_explained 25 = .ok (.ifCond .ge 6, 3) := by decide +kernel
theorem dX7_explained_28 : decode cX7_explained 28 = .ok (.ldc 180, 2) := by decide +kernel
theorem dX7_explained_30 : decode cX7_explained 30 = .ok (.ireturn, 1) := by decide +kernel
theorem dX7_explained_31 : decode cX7_explained 31 = .ok (.aload_n 0, 1) := by decide +kernel
theorem dX7_explained_32 : decode cX7_explained 32 = .ok (.invokevirtual 164, 3) := by decide +kernel
theorem dX7_explained_35 : decode cX7_explained 35 = .ok (.iconst 0, 1) := by decide +kernel
theorem dX7_explained_36 : decode cX7_explained 36 = .ok (.istore_n 3, 1) := by decide +kernel
theorem dX7_explained_37 : decode cX7_explained 37 = .ok (.aload_n 0, 1) := by decide +kernel
theorem dX7_explained_38 : decode cX7_explained 38 = .ok (.iload_n 1, 1) := by decide +kernel
theorem dX7_explained_39 : decode cX7_explained 39 = .ok (.iconst 0, 1) := by decide +kernel
theorem dX7_explained_40 : decode cX7_explained 40 = .ok (.invokevirtual 181, 3) := by decide +kernel
theorem dX7_explained_43 : decode cX7_explained 43 = .ok (.lstore 4, 2) := by decide +kernel
theorem dX7_explained_45 : decode cX7_explained 45 = .ok (.iconst 1, 1) := by decide +kernel
theorem dX7_explained_46 : decode cX7_explained 46 = .ok (.istore 6, 2) := by decide +kernel
theorem dX7_explained_48 : decode cX7_explained 48 = .ok (.iload 6, 2) := by decide +kernel
theorem dX7_explained_50 : decode cX7_explained 50 = .ok (.bipush 25, 2) := by decide +kernel
theorem dX7_explained_52 : decode cX7_explained 52 = .ok (.if_icmp .ge 50, 3) := by decide +kernel
theorem dX7_explained_55 : decode cX7_explained 55 = .ok (.aload_n 0, 1) := by decide +kernel
theorem dX7_explained_56 : decode cX7_explained 56 = .ok (.iload_n 1, 1) := by decide +kernel
theorem dX7_explained_57 : decode cX7_explained 57 = .ok (.iload 6, 2) := by decide +kernel
theorem dX7_explained_59 : decode cX7_explained 59 = .ok (.invokevirtual 181, 3) := by decide +kernel
theorem dX7_explained_62 : decode cX7_explained 62 = .ok (.lstore 7, 2) := by decide +kernel
theorem dX7_explained_64 : decode cX7_explained 64 = .ok (.lload 7, 2) := by decide +kernel
theorem dX7_explained_66 : decode cX7_explained 66 = .ok (.lload 4, 2) := by decide +kernel
theorem dX7_explained_68 : decode cX7_explained 68 = .ok (.lcmp, 1) := by decide +kernel
theorem dX7_explained_69 : decode cX7_explained 69 = .ok (.ifCond .ge 8, 3) := by decide +kernel
theorem dX7_explained_72 : decode cX7_explained 72 = .ok (.iload 6, 2) := by decide +kernel
theorem dX7_explained_74 : decode cX7_explained 74 = .ok (.goto 4, 3) := by decide +kernel
theorem dX7_explained_77 : decode cX7_explained 77 = .ok (.iload_n 3, 1) := by decide +kernel
theorem dX7_explained_78 : decode cX7_explained 78 = .ok (.istore_n 3, 1) := by decide +kernel
theorem dX7_explained_79 : decode cX7_explained 79 = .ok (.lload 7, 2) := by decide +kernel
theorem dX7_explained_81 : decode cX7_explained 81 = .ok (.lload 4, 2) := by decide +kernel
theorem dX7_explained_83 : decode cX7_explained 83 = .ok (.lcmp, 1) := by decide +kernel
theorem dX7_explained_84 : decode cX7_explained 84 = .ok (.ifCond .ge 8, 3) := by decide +kernel
theorem dX7_explained_87 : decode cX7_explained 87 = .ok (.lload 7, 2) := by decide +kernel
theorem dX7_explained_89 : decode cX7_explained 89 = .ok (.goto 5, 3) := by decide +kernel
theorem dX7_explained_92 : decode cX7_explained 92 = .ok (.lload 4, 2) := by decide +kernel
theorem dX7_explained_94 : decode cX7_explained 94 = .ok (.lstore 4, 2) := by decide +kernel
theorem dX7_explained_96 : decode cX7_explained 96 = .ok (.iinc 6 1, 3) := by decide +kernel
theorem dX7_explained_99 : decode cX7_explained 99 = .ok (.goto (-51), 3) := by decide +kernel
theorem dX7_explained_102 : decode cX7_explained 102 = .ok (.iload_n 2, 1) := by decide +kernel
theorem dX7_explained_103 : decode cX7_explained 103 = .ok (.ifCond .ne 7, 3) := by decide +kernel
theorem dX7_explained_106 : decode cX7_explained 106 = .ok (.iload_n 3, 1) := by decide +kernel
theorem dX7_explained_107 : decode cX7_explained 107 = .ok (.goto 6, 3) := by decide +kernel
theorem dX7_explained_110 : decode cX7_explained 110 = .ok (.lload 4, 2) := by decide +kernel
theorem dX7_explained_112 : decode cX7_explained 112 = .ok (.l2i, 1) := by decide +kernel
theorem dX7_explained_113 : decode cX7_explained 113 = .ok (.ireturn, 1) := by decide +kernel
def wpX7_explained_78 (C : CT) (I48 : Int32 → Int32 → Int32 → Int64 → Int32 → Mem → Prop)  (x1 : Int32) (x2 : Int32) (x3 : Int32) (y4 : Int64) (x6 : Int32) (y7 : Int64) (s0 : Int32) (V : Mem) (Q : Option AV → Mem → Prop) : Prop :=
  ((0 ≤ (lg_cmp y7 y4) → I48 x1 x2 s0 y4 (x6 + 1) V) ∧ (¬ 0 ≤ (lg_cmp y7 y4) → I48 x1 x2 s0 y7 (x6 + 1) V))
set_option maxRecDepth 10000 in
theorem okX7_explained_78 {d : Nat} {P : Option AV → Mem → Prop} {I48 : Int32 → Int32 → Int32 → Int64 → Int32 → Mem → Prop}   (x1 : Int32) (x2 : Int32) (x3 : Int32) (y4 : Int64) (x6 : Int32) (y7 : Int64) (s0 : Int32)  (V : Mem) (hk48 : ∀ (x1 : Int32) (x2 : Int32) (x3 : Int32) (y4 : Int64) (x6 : Int32), ∀ (V : Mem), I48 x1 x2 x3 y4 x6 V → Gq (Kp (d + 1) mX7_explained UM P) UM cX7_explained 9 RX7 48 [(0, aR 24 0), (1, aI x1), (2, aI x2), (3, aI x3), (4, aL y4), (6, aI x6)] [] V) (h : wpX7_explained_78 (Cl UM d) I48  x1 x2 x3 y4 x6 y7 s0 V P) : Gq (Kp (d + 1) mX7_explained UM P) UM cX7_explained 9 RX7 78 [(0, aR 24 0), (1, aI x1), (2, aI x2), (3, aI x3), (4, aL y4), (6, aI x6), (7, aL y7)] [aI s0] V := by
  unfold wpX7_explained_78 at h
  refine go_istore_n (al1 := [(3, aI s0), (0, aR 24 0), (1, aI x1), (2, aI x2), (4, aL y4), (6, aI x6), (7, aL y7)]) dX7_explained_78 rfl (by decide) rfl ?_
  refine go_lload (q := 6) dX7_explained_79 rfl ?_
  refine go_lload (q := 4) dX7_explained_81 rfl ?_
  refine go_lcmp dX7_explained_83 ?_
  refine go_if_ge (tgt := 92) dX7_explained_84 (by decide) (fun c_1 => ?_) (fun c_1 => ?_)
  · have h := h.1 c_1
    refine go_lload (q := 4) dX7_explained_92 rfl ?_
    refine go_lstore (al1 := [(4, aL y4), (3, aI s0), (0, aR 24 0), (1, aI x1), (2, aI x2), (6, aI x6), (7, aL y7)]) dX7_explained_94 (by decide) rfl ?_
    refine go_iinc (q := 5) (y := 1) (al1 := [(6, aI (x6 + 1)), (4, aL y4), (3, aI s0), (0, aR 24 0), (1, aI x1), (2, aI x2), (7, aL y7)]) dX7_explained_96 rfl (by decide) (by decide) rfl ?_
    refine go_goto (tgt := 48) dX7_explained_99 (by decide) ?_
    refine go_sub (al1 := [(0, aR 24 0), (1, aI x1), (2, aI x2), (3, aI s0), (4, aL y4), (6, aI (x6 + 1))]) [3, 4, 5, 2, 1, 0] rfl ?_
    exact hk48 x1 x2 s0 y4 (x6 + 1)  V h
  · have h := h.2 c_1
    refine go_lload (q := 6) dX7_explained_87 rfl ?_
    refine go_goto (tgt := 94) dX7_explained_89 (by decide) ?_
    refine go_lstore (al1 := [(4, aL y7), (3, aI s0), (0, aR 24 0), (1, aI x1), (2, aI x2), (6, aI x6), (7, aL y7)]) dX7_explained_94 (by decide) rfl ?_
    refine go_iinc (q := 5) (y := 1) (al1 := [(6, aI (x6 + 1)), (4, aL y7), (3, aI s0), (0, aR 24 0), (1, aI x1), (2, aI x2), (7, aL y7)]) dX7_explained_96 rfl (by decide) (by decide) rfl ?_
    refine go_goto (tgt := 48) dX7_explained_99 (by decide) ?_
    refine go_sub (al1 := [(0, aR 24 0), (1, aI x1), (2, aI x2), (3, aI s0), (4, aL y7), (6, aI (x6 + 1))]) [3, 4, 5, 2, 1, 0] rfl ?_
    exact hk48 x1 x2 s0 y7 (x6 + 1)  V h
def wpX7_explained_48 (C : CT) (I48 : Int32 → Int32 → Int32 → Int64 → Int32 → Mem → Prop)  (x1 : Int32) (x2 : Int32) (x3 : Int32) (y4 : Int64) (x6 : Int32) (V : Mem) (Q : Option AV → Mem → Prop) : Prop :=
  ((25 ≤ x6 → ((¬ x2 = 0 → Q (some (aI ((y4 : Int64).toInt32))) V) ∧ (x2 = 0 → Q (some (aI x3)) V))) ∧ (¬ 25 ≤ x6 → (cL C mX7_offBy [aR 24 0, aI x1, aI x6] V (fun x_3 V_2 => ((0 ≤ (lg_cmp x_3 y4) → wpX7_explained_78 C I48  x1 x2 x3 y4 x6 x_3 x3 V_2 Q) ∧ (¬ 0 ≤ (lg_cmp x_3 y4) → wpX7_explained_78 C I48  x1 x2 x3 y4 x6 x_3 x6 V_2 Q))))))
set_option maxRecDepth 10000 in
theorem okX7_explained_48 {d : Nat} {P : Option AV → Mem → Prop} {I48 : Int32 → Int32 → Int32 → Int64 → Int32 → Mem → Prop}   (x1 : Int32) (x2 : Int32) (x3 : Int32) (y4 : Int64) (x6 : Int32)  (V : Mem) (hk48 : ∀ (x1 : Int32) (x2 : Int32) (x3 : Int32) (y4 : Int64) (x6 : Int32), ∀ (V : Mem), I48 x1 x2 x3 y4 x6 V → Gq (Kp (d + 1) mX7_explained UM P) UM cX7_explained 9 RX7 48 [(0, aR 24 0), (1, aI x1), (2, aI x2), (3, aI x3), (4, aL y4), (6, aI x6)] [] V) (h : wpX7_explained_48 (Cl UM d) I48  x1 x2 x3 y4 x6 V P) : Gq (Kp (d + 1) mX7_explained UM P) UM cX7_explained 9 RX7 48 [(0, aR 24 0), (1, aI x1), (2, aI x2), (3, aI x3), (4, aL y4), (6, aI x6)] [] V := by
  unfold wpX7_explained_48 at h
  refine go_iload (q := 5) dX7_explained_48 rfl ?_
  refine go_bipush (v := 25) dX7_explained_50 (by decide) ?_
  refine go_icmp_ge (tgt := 102) dX7_explained_52 (by decide) (fun c_5 => ?_) (fun c_5 => ?_)
  · have h := h.1 c_5
    refine go_iload_n (q := 2) dX7_explained_102 rfl rfl ?_
    refine go_if_ne (tgt := 110) dX7_explained_103 (by decide) (fun c_1 => ?_) (fun c_1 => ?_)
    · have h := h.1 c_1
      refine go_lload (q := 4) dX7_explained_110 rfl ?_
      refine go_l2i dX7_explained_112 ?_
      exact go_iret rfl dX7_explained_113 h
    · have h := h.2 c_1
      refine go_iload_n (q := 3) dX7_explained_106 rfl rfl ?_
      refine go_goto (tgt := 113) dX7_explained_107 (by decide) ?_
      exact go_iret rfl dX7_explained_113 h
  · have h := h.2 c_5
    refine go_aload_n (q := 0) dX7_explained_55 rfl rfl ?_
    refine go_iload_n (q := 1) dX7_explained_56 rfl rfl ?_
    refine go_iload (q := 5) dX7_explained_57 rfl ?_
    refine go_cVL (As := [aI x1, aI x6]) (st := []) (r := 24) (i := 0) mv_X7_offBy dX7_explained_59 ml_X7_181 (hr_Kp (Nat.le_refl d)) rfl rfl (mM (by decide) (by decide) rfl) rfl rfl (Nat.le_of_ble_eq_true rfl) h (fun x_3 V_2 h => ?_)
    refine go_lstore (al1 := [(7, aL x_3), (0, aR 24 0), (1, aI x1), (2, aI x2), (3, aI x3), (4, aL y4), (6, aI x6)]) dX7_explained_62 (by decide) rfl ?_
    refine go_lload (q := 0) dX7_explained_64 rfl ?_
    refine go_lload (q := 5) dX7_explained_66 rfl ?_
    refine go_lcmp dX7_explained_68 ?_
    refine go_if_ge (tgt := 77) dX7_explained_69 (by decide) (fun c_4 => ?_) (fun c_4 => ?_)
    · have h := h.1 c_4
      refine go_iload_n (q := 4) dX7_explained_77 rfl rfl ?_
      refine go_sub (al1 := [(0, aR 24 0), (1, aI x1), (2, aI x2), (3, aI x3), (4, aL y4), (6, aI x6), (7, aL x_3)]) [1, 2, 3, 4, 5, 6, 0] rfl ?_
      exact okX7_explained_78   x1 x2 x3 y4 x6 x_3 x3  V_2 hk48 h
    · have h := h.2 c_4
      refine go_iload (q := 6) dX7_explained_72 rfl ?_
      refine go_goto (tgt := 78) dX7_explained_74 (by decide) ?_
      refine go_sub (al1 := [(0, aR 24 0), (1, aI x1), (2, aI x2), (3, aI x3), (4, aL y4), (6, aI x6), (7, aL x_3)]) [1, 2, 3, 4, 5, 6, 0] rfl ?_
      exact okX7_explained_78   x1 x2 x3 y4 x6 x_3 x6  V_2 hk48 h
def wpX7_explained_0 (C : CT) (I48 : Int32 → Int32 → Int32 → Int64 → Int32 → Mem → Prop)  (x1 : Int32) (x2 : Int32) (V : Mem) (Q : Option AV → Mem → Prop) : Prop :=
  (cI C mX7_isSheet [aI x1] V (fun x_2 V_1 => ((x_2 = 0 → Q (some (aI (-1000000001))) V_1) ∧ (¬ x_2 = 0 → (cI C mX7_in [aI x2, aI 0, aI 1] V_1 (fun x_4 V_3 => ((¬ x_4 = 0 → (∃ j_5 : Nat, x1 = nI j_5 ∧ j_5 < 4 ∧ ((0 ≤ (V_3 37 0 j_5) → (cV C mX7_thinks [aR 24 0] V_3 (fun V_6 => (cL C mX7_offBy [aR 24 0, aI x1, aI 0] V_6 (fun x_8 V_7 => I48 x1 x2 0 x_8 1 V_7))))) ∧ (¬ 0 ≤ (V_3 37 0 j_5) → Q (some (aI (-1000000011))) V_3)))) ∧ (x_4 = 0 → Q (some (aI (-1000000001))) V_3))))))))
set_option maxRecDepth 10000 in
theorem okX7_explained_0 {d : Nat} {P : Option AV → Mem → Prop} {I48 : Int32 → Int32 → Int32 → Int64 → Int32 → Mem → Prop}   (x1 : Int32) (x2 : Int32)  (V : Mem) (hk48 : ∀ (x1 : Int32) (x2 : Int32) (x3 : Int32) (y4 : Int64) (x6 : Int32), ∀ (V : Mem), I48 x1 x2 x3 y4 x6 V → Gq (Kp (d + 1) mX7_explained UM P) UM cX7_explained 9 RX7 48 [(0, aR 24 0), (1, aI x1), (2, aI x2), (3, aI x3), (4, aL y4), (6, aI x6)] [] V) (h : wpX7_explained_0 (Cl UM d) I48  x1 x2 V P) : Gq (Kp (d + 1) mX7_explained UM P) UM cX7_explained 9 RX7 0 [(0, aR 24 0), (1, aI x1), (2, aI x2)] [] V := by
  unfold wpX7_explained_0 at h
  refine go_iload_n (q := 1) dX7_explained_0 rfl rfl ?_
  refine go_cSI (As := [aI x1]) (st := []) ms_X7_isSheet dX7_explained_1 ml_X7_177 (hr_Kp (Nat.le_refl d)) rfl rfl (Nat.le_of_ble_eq_true rfl) h (fun x_2 V_1 h => ?_)
  refine go_if_eq (tgt := 16) dX7_explained_4 (by decide) (fun c_11 => ?_) (fun c_11 => ?_)
  · have h := h.1 c_11
    refine go_ldc dX7_explained_16 ct_X7_84 ?_
    exact go_iret rfl dX7_explained_18 h
  · have h := h.2 c_11
    refine go_iload_n (q := 2) dX7_explained_7 rfl rfl ?_
    refine go_iconst (v := 0) dX7_explained_8 (by decide) ?_
    refine go_iconst (v := 1) dX7_explained_9 (by decide) ?_
    refine go_cSI (As := [aI x2, aI 0, aI 1]) (st := []) ms_X7_in dX7_explained_10 ml_X7_76 (hr_Kp (Nat.le_refl d)) rfl rfl (Nat.le_of_ble_eq_true rfl) h (fun x_4 V_3 h => ?_)
    refine go_if_ne (tgt := 19) dX7_explained_13 (by decide) (fun c_10 => ?_) (fun c_10 => ?_)
    · have h := h.1 c_10
      refine go_aload_n (q := 0) dX7_explained_19 rfl rfl ?_
      refine go_getr fg_X7_48 dX7_explained_20 (mM (by decide) (by decide) rfl) ?_
      refine go_iload_n (q := 1) dX7_explained_23 rfl rfl ?_
      obtain ⟨j_5, e_j_5, l_j_5, h⟩ := h
      refine go_iald (r := 37) (n := 4) (j := j_5) rfl (by decide) dX7_explained_24 (mM (by decide) (by decide) rfl) e_j_5 l_j_5 ?_
      refine go_if_ge (tgt := 31) dX7_explained_25 (by decide) (fun c_9 => ?_) (fun c_9 => ?_)
      · have h := h.1 c_9
        refine go_aload_n (q := 0) dX7_explained_31 rfl rfl ?_
        refine go_cVV (As := []) (st := []) (r := 24) (i := 0) mv_X7_thinks dX7_explained_32 ml_X7_164 (hr_Kp (Nat.le_refl d)) rfl rfl (mM (by decide) (by decide) rfl) rfl rfl (Nat.le_of_ble_eq_true rfl) h (fun V_6 h => ?_)
        refine go_iconst (v := 0) dX7_explained_35 (by decide) ?_
        refine go_istore_n (al1 := [(3, aI 0), (0, aR 24 0), (1, aI x1), (2, aI x2)]) dX7_explained_36 rfl (by decide) rfl ?_
        refine go_aload_n (q := 1) dX7_explained_37 rfl rfl ?_
        refine go_iload_n (q := 2) dX7_explained_38 rfl rfl ?_
        refine go_iconst (v := 0) dX7_explained_39 (by decide) ?_
        refine go_cVL (As := [aI x1, aI 0]) (st := []) (r := 24) (i := 0) mv_X7_offBy dX7_explained_40 ml_X7_181 (hr_Kp (Nat.le_refl d)) rfl rfl (mM (by decide) (by decide) rfl) rfl rfl (Nat.le_of_ble_eq_true rfl) h (fun x_8 V_7 h => ?_)
        refine go_lstore (al1 := [(4, aL x_8), (3, aI 0), (0, aR 24 0), (1, aI x1), (2, aI x2)]) dX7_explained_43 (by decide) rfl ?_
        refine go_iconst (v := 1) dX7_explained_45 (by decide) ?_
        refine go_istore (al1 := [(6, aI 1), (4, aL x_8), (3, aI 0), (0, aR 24 0), (1, aI x1), (2, aI x2)]) dX7_explained_46 (by decide) rfl ?_
        refine go_sub (al1 := [(0, aR 24 0), (1, aI x1), (2, aI x2), (3, aI 0), (4, aL x_8), (6, aI 1)]) [3, 4, 5, 2, 1, 0] rfl ?_
        exact hk48 x1 x2 0 x_8 1  V_7 h
      · have h := h.2 c_9
        refine go_ldc dX7_explained_28 ct_X7_180 ?_
        exact go_iret rfl dX7_explained_30 h
    · have h := h.2 c_10
      refine go_ldc dX7_explained_16 ct_X7_84 ?_
      exact go_iret rfl dX7_explained_18 h
theorem clX7_explained {d : Nat} {P : Option AV → Mem → Prop} {I48 : Int32 → Int32 → Int32 → Int64 → Int32 → Mem → Prop}   (x1 : Int32) (x2 : Int32) (V : Mem) (hk48 : ∀ (x1 : Int32) (x2 : Int32) (x3 : Int32) (y4 : Int64) (x6 : Int32), ∀ (V : Mem), I48 x1 x2 x3 y4 x6 V → Gq (Kp (d + 1) mX7_explained UM P) UM cX7_explained 9 RX7 48 [(0, aR 24 0), (1, aI x1), (2, aI x2), (3, aI x3), (4, aL y4), (6, aI x6)] [] V) (h : wpX7_explained_0 (Cl UM d) I48  x1 x2 V P) : Cl UM (d + 1) mX7_explained [aR 24 0, aI x1, aI x2] V P :=
  cl_of [(0, aR 24 0), (1, aI x1), (2, aI x2)] (by decide) (fun _ => Nat.le_of_ble_eq_true rfl) (fun _ => rfl) (okX7_explained_0   x1 x2 V hk48 h)
theorem dX7_fine_0 : decode cX7_fine 0 = .ok (.aload_n 0, 1) := by decide +kernel
theorem dX7_fine_1 : decode cX7_fine 1 = .ok (.iload_n 1, 1) := by decide +kernel
theorem dX7_fine_2 : decode cX7_fine 2 = .ok (.invokevirtual 111, 3) := by decide +kernel
theorem dX7_fine_5 : decode cX7_fine 5 = .ok (.ifCond .ne 6, 3) := by decide +kernel
theorem dX7_fine_8 : decode cX7_fine 8 = .ok (.ldc 84, 2) := by decide +kernel
theorem dX7_fine_10 : decode cX7_fine 10 = .ok (.ireturn, 1) := by decide +kernel
theorem dX7_fine_11 : decode cX7_fine 11 = .ok (.aload_n 0, 1) := by decide +kernel
theorem dX7_fine_12 : decode cX7_fine 12 = .ok (.iconst 2, 1) := by decide +kernel
theorem dX7_fine_13 : decode cX7_fine 13 = .ok (.invokevirtual 101, 3) := by decide +kernel
theorem dX7_fine_16 : decode cX7_fine 16 = .ok (.istore_n 2, 1) := by decide +kernel
theorem dX7_fine_17 : decode cX7_fine 17 = .ok (.aload_n 0, 1) := by decide +kernel
theorem dX7_fine_18 : decode cX7_fine 18 = .ok (.getfield 45, 3) := by decide +kernel
theorem dX7_fine_21 : decode cX7_fine 21 = .ok (.iconst 0, 1) := by decide +kernel
theorem dX7_fine_22 : decode cX7_fine 22 = .ok (.aload_n 0, 1) := by decide +kernel
theorem dX7_fine_23 : decode cX7_fine 23 = .ok (.iload_n 1, 1) := by decide +kernel
theorem dX7_fine_24 : decode cX7_fine 24 = .ok (.iconst 4, 1) := by decide +kernel
theorem dX7_fine_25 : decode cX7_fine 25 = .ok (.invokevirtual 94, 3) := by decide +kernel
theorem dX7_fine_28 : decode cX7_fine 28 = .ok (.iastore, 1) := by decide +kernel
theorem dX7_fine_29 : decode cX7_fine 29 = .ok (.aload_n 0, 1) := by decide +kernel
theorem dX7_fine_30 : decode cX7_fine 30 = .ok (.getfield 45, 3) := by decide +kernel
theorem dX7_fine_33 : decode cX7_fine 33 = .ok (.iconst 1, 1) := by decide +kernel
theorem dX7_fine_34 : decode cX7_fine 34 = .ok (.aload_n 0, 1) := by decide +kernel
theorem dX7_fine_35 : decode cX7_fine 35 = .ok (.getfield 9, 3) := by decide +kernel
theorem dX7_fine_38 : decode cX7_fine 38 = .ok (.bipush 8, 2) := by decide +kernel
theorem dX7_fine_40 : decode cX7_fine 40 = .ok (.iaload, 1) := by decide +kernel
theorem dX7_fine_41 : decode cX7_fine 41 = .ok (.iastore, 1) := by decide +kernel
theorem dX7_fine_42 : decode cX7_fine 42 = .ok (.iload_n 2, 1) := by decide +kernel
theorem dX7_fine_43 : decode cX7_fine 43 = .ok (.ifCond .ge 13, 3) := by decide +kernel
theorem dX7_fine_46 : decode cX7_fine 46 = .ok (.aload_n 0, 1) := by decide +kernel
theorem dX7_fine_47 : decode cX7_fine 47 = .ok (.getfield 9, 3) := by decide +kernel
theorem dX7_fine_50 : decode cX7_fine 50 = .ok (.bipush 8, 2) := by decide +kernel
theorem dX7_fine_52 : decode cX7_fine 52 = .ok (.iaload, 1) := by decide +kernel
theorem dX7_fine_53 : decode cX7_fine 53 = .ok (.goto 8, 3) := by decide +kernel
theorem dX7_fine_56 : decode cX7_fine 56 = .ok (.aload_n 0, 1) := by decide +kernel
theorem dX7_fine_57 : decode cX7_fine 57 = .ok (.iload_n 2, 1) := by decide +kernel
theorem dX7_fine_58 : decode cX7_fine 58 = .ok (.invokevirtual 108, 3) := by decide +kernel
theorem dX7_fine_61 : decode cX7_fine 61 = .ok (.ireturn, 1) := by decide +kernel
def wpX7_fine_0 (C : CT)   (x1 : Int32) (V : Mem) (Q : Option AV → Mem → Prop) : Prop :=
  (cI C mX7_isRoof [aR 24 0, aI x1] V (fun x_2 V_1 => ((¬ x_2 = 0 → (cI C mX7_counts [aR 24 0, aI 2] V_1 (fun x_4 V_3 => (cI C mX7_of [aR 24 0, aI x1, aI 4] V_3 (fun x_6 V_5 => (∀ V_7 : Mem, V_7 = mu V_5 36 0 0 x_6 → (∀ V_8 : Mem, V_8 = mu V_7 36 0 1 (V_7 25 0 8) → ((0 ≤ x_4 → (cI C mX7_worksOut [aR 24 0, aI x_4] V_8 (fun x_10 V_9 => Q (some (aI x_10)) V_9))) ∧ (¬ 0 ≤ x_4 → Q (some (aI (V_8 25 0 8))) V_8))))))))) ∧ (x_2 = 0 → Q (some (aI (-1000000001))) V_1))))
set_option maxRecDepth 10000 in
theorem okX7_fine_0 {d : Nat} {P : Option AV → Mem → Prop}    (x1 : Int32)  (V : Mem)  (h : wpX7_fine_0 (Cl UM d)   x1 V P) : Gq (Kp (d + 1) mX7_fine UM P) UM cX7_fine 3 RX7 0 [(0, aR 24 0), (1, aI x1)] [] V := by
  unfold wpX7_fine_0 at h
  refine go_aload_n (q := 0) dX7_fine_0 rfl rfl ?_
  refine go_iload_n (q := 1) dX7_fine_1 rfl rfl ?_
  refine go_cVI (As := [aI x1]) (st := []) (r := 24) (i := 0) mv_X7_isRoof dX7_fine_2 ml_X7_111 (hr_Kp (Nat.le_refl d)) rfl rfl (mM (by decide) (by decide) rfl) rfl rfl (Nat.le_of_ble_eq_true rfl) h (fun x_2 V_1 h => ?_)
  refine go_if_ne (tgt := 11) dX7_fine_5 (by decide) (fun c_12 => ?_) (fun c_12 => ?_)
  · have h := h.1 c_12
    refine go_aload_n (q := 0) dX7_fine_11 rfl rfl ?_
    refine go_iconst (v := 2) dX7_fine_12 (by decide) ?_
    refine go_cVI (As := [aI 2]) (st := []) (r := 24) (i := 0) mv_X7_counts dX7_fine_13 ml_X7_101 (hr_Kp (Nat.le_refl d)) rfl rfl (mM (by decide) (by decide) rfl) rfl rfl (Nat.le_of_ble_eq_true rfl) h (fun x_4 V_3 h => ?_)
    refine go_istore_n (al1 := [(2, aI x_4), (0, aR 24 0), (1, aI x1)]) dX7_fine_16 rfl (by decide) rfl ?_
    refine go_aload_n (q := 1) dX7_fine_17 rfl rfl ?_
    refine go_getr fg_X7_45 dX7_fine_18 (mM (by decide) (by decide) rfl) ?_
    refine go_iconst (v := 0) dX7_fine_21 (by decide) ?_
    refine go_aload_n (q := 1) dX7_fine_22 rfl rfl ?_
    refine go_iload_n (q := 2) dX7_fine_23 rfl rfl ?_
    refine go_iconst (v := 4) dX7_fine_24 (by decide) ?_
    refine go_cVI (As := [aI x1, aI 4]) (st := [aI 0, aR 36 0]) (r := 24) (i := 0) mv_X7_of dX7_fine_25 ml_X7_94 (hr_Kp (Nat.le_refl d)) rfl rfl (mM (by decide) (by decide) rfl) rfl rfl (Nat.le_of_ble_eq_true rfl) h (fun x_6 V_5 h => ?_)
    refine go_iast (r := 36) (n := 4) (j := 0) rfl (by decide) dX7_fine_28 (mM (by decide) (by decide) rfl) (by decide) (by decide) ?_
    refine nmV (fun V_7 e_V_7 => ?_)
    have h := h V_7 e_V_7
    refine go_aload_n (q := 1) dX7_fine_29 rfl rfl ?_
    refine go_getr fg_X7_45 dX7_fine_30 (mM (by decide) (by decide) rfl) ?_
    refine go_iconst (v := 1) dX7_fine_33 (by decide) ?_
    refine go_aload_n (q := 1) dX7_fine_34 rfl rfl ?_
    refine go_getr fg_X7_9 dX7_fine_35 (mM (by decide) (by decide) rfl) ?_
    refine go_bipush (v := 8) dX7_fine_38 (by decide) ?_
    refine go_iald (r := 25) (n := 1479) (j := 8) rfl (by decide) dX7_fine_40 (mM (by decide) (by decide) rfl) (by decide) (by decide) ?_
    refine go_iast (r := 36) (n := 4) (j := 1) rfl (by decide) dX7_fine_41 (mM (by decide) (by decide) rfl) (by decide) (by decide) ?_
    refine nmV (fun V_8 e_V_8 => ?_)
    have h := h V_8 e_V_8
    refine go_iload_n (q := 0) dX7_fine_42 rfl rfl ?_
    refine go_if_ge (tgt := 56) dX7_fine_43 (by decide) (fun c_11 => ?_) (fun c_11 => ?_)
    · have h := h.1 c_11
      refine go_aload_n (q := 1) dX7_fine_56 rfl rfl ?_
      refine go_iload_n (q := 0) dX7_fine_57 rfl rfl ?_
      refine go_cVI (As := [aI x_4]) (st := []) (r := 24) (i := 0) mv_X7_worksOut dX7_fine_58 ml_X7_108 (hr_Kp (Nat.le_refl d)) rfl rfl (mM (by decide) (by decide) rfl) rfl rfl (Nat.le_of_ble_eq_true rfl) h (fun x_10 V_9 h => ?_)
      exact go_iret rfl dX7_fine_61 h
    · have h := h.2 c_11
      refine go_aload_n (q := 1) dX7_fine_46 rfl rfl ?_
      refine go_getr fg_X7_9 dX7_fine_47 (mM (by decide) (by decide) rfl) ?_
      refine go_bipush (v := 8) dX7_fine_50 (by decide) ?_
      refine go_iald (r := 25) (n := 1479) (j := 8) rfl (by decide) dX7_fine_52 (mM (by decide) (by decide) rfl) (by decide) (by decide) ?_
      refine go_goto (tgt := 61) dX7_fine_53 (by decide) ?_
      exact go_iret rfl dX7_fine_61 h
  · have h := h.2 c_12
    refine go_ldc dX7_fine_8 ct_X7_84 ?_
    exact go_iret rfl dX7_fine_10 h
theorem clX7_fine {d : Nat} {P : Option AV → Mem → Prop}    (x1 : Int32) (V : Mem)  (h : wpX7_fine_0 (Cl UM d)   x1 V P) : Cl UM (d + 1) mX7_fine [aR 24 0, aI x1] V P :=
  cl_of [(0, aR 24 0), (1, aI x1)] (by decide) (fun _ => Nat.le_of_ble_eq_true rfl) (fun _ => rfl) (okX7_fine_0   x1 V  h)
theorem dX7_feed_0 : decode cX7_feed 0 = .ok (.aload_n 0, 1) := by decide +kernel
theorem dX7_feed_1 : decode cX7_feed 1 = .ok (.getfield 185, 3) := by decide +kernel
theorem dX7_feed_4 : decode cX7_feed 4 = .ok (.bipush 12, 2) := by decide +kernel
theorem dX7_feed_6 : decode cX7_feed 6 = .ok (.iadd, 1) := by decide +kernel
theorem dX7_feed_7 : decode cX7_feed 7 = .ok (.bipush 96, 2) := by decide +kernel
theorem dX7_feed_9 : decode cX7_feed 9 = .ok (.if_icmp .le 6, 3) := by decide +kernel
theorem dX7_feed_12 : decode cX7_feed 12 = .ok (.ldc 85, 2) := by decide +kernel
theorem dX7_feed_14 : decode cX7_feed 14 = .ok (.ireturn, 1) := by decide +kernel
theorem dX7_feed_15 : decode cX7_feed 15 = .ok (.iconst 0, 1) := by decide +kernel
theorem dX7_feed_16 : decode cX7_feed 16 = .ok (.istore 4, 2) := by decide +kernel
theorem dX7_feed_18 : decode cX7_feed 18 = .ok (.iload 4, 2) := by decide +kernel
theorem dX7_feed_20 : decode cX7_feed 20 = .ok (.bipush 12, 2) := by decide +kernel
theorem dX7_feed_22 : decode cX7_feed 22 = .ok (.if_icmp .ge 62, 3) := by decide +kernel
theorem dX7_feed_25 : decode cX7_feed 25 = .ok (.iload 4, 2) := by decide +kernel
theorem dX7_feed_27 : decode cX7_feed 27 = .ok (.iconst 4, 1) := by decide +kernel
theorem dX7_feed_28 : decode cX7_feed 28 = .ok (.if_icmp .ge 7, 3) := by decide +kernel
theorem dX7_feed_31 : decode cX7_feed 31 = .ok (.iload_n 1, 1) := by decide +kernel
theorem dX7_feed_32 : decode cX7_feed 32 = .ok (.goto 15, 3) := by decide +kernel
theorem dX7_feed_35 : decode cX7_feed 35 = .ok (.iload 4, 2) := by decide +kernel
theorem dX7_feed_37 : decode cX7_feed 37 = .ok (.bipush 8, 2) := by decide +kernel
theorem dX7_feed_39 : decode cX7_feed 39 = .ok (.if_icmp .ge 7, 3) := by decide +kernel
theorem dX7_feed_42 : decode cX7_feed 42 = .ok (.iload_n 2, 1) := by decide +kernel
theorem dX7_feed_43 : decode cX7_feed 43 = .ok (.goto 4, 3) := by decide +kernel
theorem dX7_feed_46 : decode cX7_feed 46 = .ok (.iload_n 3, 1) := by decide +kernel
theorem dX7_feed_47 : decode cX7_feed 47 = .ok (.istore 5, 2) := by decide +kernel
theorem dX7_feed_49 : decode cX7_feed 49 = .ok (.aload_n 0, 1) := by decide +kernel
theorem dX7_feed_50 : decode cX7_feed 50 = .ok (.getfield 22, 3) := by decide +kernel
theorem dX7_feed_53 : decode cX7_feed 53 = .ok (.aload_n 0, 1) := by decide +kernel
theorem dX7_feed_54 : decode cX7_feed 54 = .ok (.getfield 185, 3) := by decide +kernel
theorem dX7_feed_57 : decode cX7_feed 57 = .ok (.iload 4, 2) := by decide +kernel
theorem dX7_feed_59 : decode cX7_feed 59 = .ok (.iadd, 1) := by decide +kernel
theorem dX7_feed_60 : decode cX7_feed 60 = .ok (.iload 5, 2) := by decide +kernel
theorem dX7_feed_62 : decode cX7_feed 62 = .ok (.bipush 24, 2) := by decide +kernel
theorem dX7_feed_64 : decode cX7_feed 64 = .ok (.bipush 8, 2) := by decide +kernel
theorem dX7_feed_66 : decode cX7_feed 66 = .ok (.iload 4, 2) := by decide +kernel
theorem dX7_feed_68 : decode cX7_feed 68 = .ok (.iconst 4, 1) := by decide +kernel
theorem dX7_feed_69 : decode cX7_feed 69 = .ok (.irem, 1) := by decide +kernel
theorem dX7_feed_70 : decode cX7_feed 70 = .ok (.imul, 1) := by decide +kernel
theorem dX7_feed_71 : decode cX7_feed 71 = .ok (.isub, 1) := by decide +kernel
theorem dX7_feed_72 : decode cX7_feed 72 = .ok (.ishr, 1) := by decide +kernel
theorem dX7_feed_73 : decode cX7_feed 73 = .ok (.sipush 255, 3) := by decide +kernel
theorem dX7_feed_76 : decode cX7_feed 76 = .ok (.iand, 1) := by decide +kernel
theorem dX7_feed_77 : decode cX7_feed 77 = .ok (.iastore, 1) := by decide +kernel
theorem dX7_feed_78 : decode cX7_feed 78 = .ok (.iinc 4 1, 3) := by decide +kernel
theorem dX7_feed_81 : decode cX7_feed 81 = .ok (.goto (-63), 3) := by decide +kernel
theorem dX7_feed_84 : decode cX7_feed 84 = .ok (.aload_n 0, 1) := by decide +kernel
theorem dX7_feed_85 : decode cX7_feed 85 = .ok (.dup, 1) := by decide +kernel
theorem dX7_feed_86 : decode cX7_feed 86 = .ok (.getfield 185, 3) := by decide +kernel
theorem dX7_feed_89 : decode cX7_feed 89 = .ok (.bipush 12, 2) := by decide +kernel
theorem dX7_feed_91 : decode cX7_feed 91 = .ok (.iadd, 1) := by decide +kernel
theorem dX7_feed_92 : decode cX7_feed 92 = .ok (.putfield 185, 3) := by decide +kernel
theorem dX7_feed_95 : decode cX7_feed 95 = .ok (.aload_n 0, 1) := by decide +kernel
theorem dX7_feed_96 : decode cX7_feed 96 = .ok (.getfield 185, 3) := by decide +kernel
theorem dX7_feed_99 : decode cX7_feed 99 = .ok (.ireturn, 1) := by decide +kernel
def wpX7_feed_47 (C : CT) (I18 : Int32 → Int32 → Int32 → Int32 → Mem → Prop)  (x1 : Int32) (x2 : Int32) (x3 : Int32) (x4 : Int32) (s0 : Int32) (V : Mem) (Q : Option AV → Mem → Prop) : Prop :=
  (∀ z_1 : Int32, z_1 = (x4 - x4 / 4 * 4) → (∃ j_2 : Nat, ((V 24 0 6) + x4) = nI j_2 ∧ j_2 < 96 ∧ (∀ V_3 : Mem, V_3 = mu V 29 0 j_2 ((s0 >>> ((24 - (8 * z_1)) &&& 31)) &&& 255) → I18 x1 x2 x3 (x4 + 1) V_3)))
set_option maxRecDepth 10000 in
theorem okX7_feed_47 {d : Nat} {P : Option AV → Mem → Prop} {I18 : Int32 → Int32 → Int32 → Int32 → Mem → Prop}   (x1 : Int32) (x2 : Int32) (x3 : Int32) (x4 : Int32) (s0 : Int32)  (V : Mem) (hk18 : ∀ (x1 : Int32) (x2 : Int32) (x3 : Int32) (x4 : Int32), ∀ (V : Mem), I18 x1 x2 x3 x4 V → Gq (Kp (d + 1) mX7_feed UM P) UM cX7_feed 6 RX7 18 [(0, aR 24 0), (1, aI x1), (2, aI x2), (3, aI x3), (4, aI x4)] [] V) (h : wpX7_feed_47 (Cl UM d) I18  x1 x2 x3 x4 s0 V P) : Gq (Kp (d + 1) mX7_feed UM P) UM cX7_feed 6 RX7 47 [(0, aR 24 0), (1, aI x1), (2, aI x2), (3, aI x3), (4, aI x4)] [aI s0] V := by
  unfold wpX7_feed_47 at h
  refine go_istore (al1 := [(5, aI s0), (0, aR 24 0), (1, aI x1), (2, aI x2), (3, aI x3), (4, aI x4)]) dX7_feed_47 (by decide) rfl ?_
  refine go_aload_n (q := 1) dX7_feed_49 rfl rfl ?_
  refine go_getr fg_X7_22 dX7_feed_50 (mM (by decide) (by decide) rfl) ?_
  refine go_aload_n (q := 1) dX7_feed_53 rfl rfl ?_
  refine go_geti fg_X7_185 dX7_feed_54 (mM (by decide) (by decide) rfl) ?_
  refine go_iload (q := 5) dX7_feed_57 rfl ?_
  refine go_iadd dX7_feed_59 ?_
  refine go_iload (q := 0) dX7_feed_60 rfl ?_
  refine go_bipush (v := 24) dX7_feed_62 (by decide) ?_
  refine go_bipush (v := 8) dX7_feed_64 (by decide) ?_
  refine go_iload (q := 5) dX7_feed_66 rfl ?_
  refine go_iconst (v := 4) dX7_feed_68 (by decide) ?_
  refine go_irem dX7_feed_69 (by decide) ?_
  refine nmI (fun z_1 e_z_1 => ?_)
  have h := h z_1 e_z_1
  refine go_imul dX7_feed_70 ?_
  refine go_isub dX7_feed_71 ?_
  refine go_ishr dX7_feed_72 ?_
  refine go_sipush (v := 255) dX7_feed_73 (by decide) ?_
  refine go_iand dX7_feed_76 ?_
  obtain ⟨j_2, e_j_2, l_j_2, h⟩ := h
  refine go_iast (r := 29) (n := 96) (j := j_2) rfl (by decide) dX7_feed_77 (mM (by decide) (by decide) rfl) e_j_2 l_j_2 ?_
  refine nmV (fun V_3 e_V_3 => ?_)
  have h := h V_3 e_V_3
  refine go_iinc (q := 5) (y := 1) (al1 := [(4, aI (x4 + 1)), (5, aI s0), (0, aR 24 0), (1, aI x1), (2, aI x2), (3, aI x3)]) dX7_feed_78 rfl (by decide) (by decide) rfl ?_
  refine go_goto (tgt := 18) dX7_feed_81 (by decide) ?_
  refine go_sub (al1 := [(0, aR 24 0), (1, aI x1), (2, aI x2), (3, aI x3), (4, aI (x4 + 1))]) [2, 3, 4, 5, 0] rfl ?_
  exact hk18 x1 x2 x3 (x4 + 1)  V_3 h
def wpX7_feed_18 (C : CT) (I18 : Int32 → Int32 → Int32 → Int32 → Mem → Prop)  (x1 : Int32) (x2 : Int32) (x3 : Int32) (x4 : Int32) (V : Mem) (Q : Option AV → Mem → Prop) : Prop :=
  ((12 ≤ x4 → (∀ V_1 : Mem, V_1 = mu V 24 0 6 ((V 24 0 6) + 12) → Q (some (aI (V_1 24 0 6))) V_1)) ∧ (¬ 12 ≤ x4 → ((4 ≤ x4 → ((8 ≤ x4 → wpX7_feed_47 C I18  x1 x2 x3 x4 x3 V Q) ∧ (¬ 8 ≤ x4 → wpX7_feed_47 C I18  x1 x2 x3 x4 x2 V Q))) ∧ (¬ 4 ≤ x4 → wpX7_feed_47 C I18  x1 x2 x3 x4 x1 V Q))))
set_option maxRecDepth 10000 in
theorem okX7_feed_18 {d : Nat} {P : Option AV → Mem → Prop} {I18 : Int32 → Int32 → Int32 → Int32 → Mem → Prop}   (x1 : Int32) (x2 : Int32) (x3 : Int32) (x4 : Int32)  (V : Mem) (hk18 : ∀ (x1 : Int32) (x2 : Int32) (x3 : Int32) (x4 : Int32), ∀ (V : Mem), I18 x1 x2 x3 x4 V → Gq (Kp (d + 1) mX7_feed UM P) UM cX7_feed 6 RX7 18 [(0, aR 24 0), (1, aI x1), (2, aI x2), (3, aI x3), (4, aI x4)] [] V) (h : wpX7_feed_18 (Cl UM d) I18  x1 x2 x3 x4 V P) : Gq (Kp (d + 1) mX7_feed UM P) UM cX7_feed 6 RX7 18 [(0, aR 24 0), (1, aI x1), (2, aI x2), (3, aI x3), (4, aI x4)] [] V := by
  unfold wpX7_feed_18 at h
  refine go_iload (q := 4) dX7_feed_18 rfl ?_
  refine go_bipush (v := 12) dX7_feed_20 (by decide) ?_
  refine go_icmp_ge (tgt := 84) dX7_feed_22 (by decide) (fun c_4 => ?_) (fun c_4 => ?_)
  · have h := h.1 c_4
    refine go_aload_n (q := 0) dX7_feed_84 rfl rfl ?_
    refine go_dup dX7_feed_85 rfl ?_
    refine go_geti fg_X7_185 dX7_feed_86 (mM (by decide) (by decide) rfl) ?_
    refine go_bipush (v := 12) dX7_feed_89 (by decide) ?_
    refine go_iadd dX7_feed_91 ?_
    refine go_puti fp_X7_185 dX7_feed_92 (mM (by decide) (by decide) rfl) ?_
    refine nmV (fun V_1 e_V_1 => ?_)
    have h := h V_1 e_V_1
    refine go_aload_n (q := 0) dX7_feed_95 rfl rfl ?_
    refine go_geti fg_X7_185 dX7_feed_96 (mM (by decide) (by decide) rfl) ?_
    exact go_iret rfl dX7_feed_99 h
  · have h := h.2 c_4
    refine go_iload (q := 4) dX7_feed_25 rfl ?_
    refine go_iconst (v := 4) dX7_feed_27 (by decide) ?_
    refine go_icmp_ge (tgt := 35) dX7_feed_28 (by decide) (fun c_3 => ?_) (fun c_3 => ?_)
    · have h := h.1 c_3
      refine go_iload (q := 4) dX7_feed_35 rfl ?_
      refine go_bipush (v := 8) dX7_feed_37 (by decide) ?_
      refine go_icmp_ge (tgt := 46) dX7_feed_39 (by decide) (fun c_2 => ?_) (fun c_2 => ?_)
      · have h := h.1 c_2
        refine go_iload_n (q := 3) dX7_feed_46 rfl rfl ?_
        exact okX7_feed_47   x1 x2 x3 x4 x3  V hk18 h
      · have h := h.2 c_2
        refine go_iload_n (q := 2) dX7_feed_42 rfl rfl ?_
        refine go_goto (tgt := 47) dX7_feed_43 (by decide) ?_
        exact okX7_feed_47   x1 x2 x3 x4 x2  V hk18 h
    · have h := h.2 c_3
      refine go_iload_n (q := 1) dX7_feed_31 rfl rfl ?_
      refine go_goto (tgt := 47) dX7_feed_32 (by decide) ?_
      exact okX7_feed_47   x1 x2 x3 x4 x1  V hk18 h
def wpX7_feed_0 (C : CT) (I18 : Int32 → Int32 → Int32 → Int32 → Mem → Prop)  (x1 : Int32) (x2 : Int32) (x3 : Int32) (V : Mem) (Q : Option AV → Mem → Prop) : Prop :=
  ((((V 24 0 6) + 12) ≤ 96 → I18 x1 x2 x3 0 V) ∧ (¬ ((V 24 0 6) + 12) ≤ 96 → Q (some (aI (-1000000003))) V))
set_option maxRecDepth 10000 in
theorem okX7_feed_0 {d : Nat} {P : Option AV → Mem → Prop} {I18 : Int32 → Int32 → Int32 → Int32 → Mem → Prop}   (x1 : Int32) (x2 : Int32) (x3 : Int32)  (V : Mem) (hk18 : ∀ (x1 : Int32) (x2 : Int32) (x3 : Int32) (x4 : Int32), ∀ (V : Mem), I18 x1 x2 x3 x4 V → Gq (Kp (d + 1) mX7_feed UM P) UM cX7_feed 6 RX7 18 [(0, aR 24 0), (1, aI x1), (2, aI x2), (3, aI x3), (4, aI x4)] [] V) (h : wpX7_feed_0 (Cl UM d) I18  x1 x2 x3 V P) : Gq (Kp (d + 1) mX7_feed UM P) UM cX7_feed 6 RX7 0 [(0, aR 24 0), (1, aI x1), (2, aI x2), (3, aI x3)] [] V := by
  unfold wpX7_feed_0 at h
  refine go_aload_n (q := 0) dX7_feed_0 rfl rfl ?_
  refine go_geti fg_X7_185 dX7_feed_1 (mM (by decide) (by decide) rfl) ?_
  refine go_bipush (v := 12) dX7_feed_4 (by decide) ?_
  refine go_iadd dX7_feed_6 ?_
  refine go_bipush (v := 96) dX7_feed_7 (by decide) ?_
  refine go_icmp_le (tgt := 15) dX7_feed_9 (by decide) (fun c_1 => ?_) (fun c_1 => ?_)
  · have h := h.1 c_1
    refine go_iconst (v := 0) dX7_feed_15 (by decide) ?_
    refine go_istore (al1 := [(4, aI 0), (0, aR 24 0), (1, aI x1), (2, aI x2), (3, aI x3)]) dX7_feed_16 (by decide) rfl ?_
    refine go_sub (al1 := [(0, aR 24 0), (1, aI x1), (2, aI x2), (3, aI x3), (4, aI 0)]) [1, 2, 3, 4, 0] rfl ?_
    exact hk18 x1 x2 x3 0  V h
  · have h := h.2 c_1
    refine go_ldc dX7_feed_12 ct_X7_85 ?_
    exact go_iret rfl dX7_feed_14 h
theorem clX7_feed {d : Nat} {P : Option AV → Mem → Prop} {I18 : Int32 → Int32 → Int32 → Int32 → Mem → Prop}   (x1 : Int32) (x2 : Int32) (x3 : Int32) (V : Mem) (hk18 : ∀ (x1 : Int32) (x2 : Int32) (x3 : Int32) (x4 : Int32), ∀ (V : Mem), I18 x1 x2 x3 x4 V → Gq (Kp (d + 1) mX7_feed UM P) UM cX7_feed 6 RX7 18 [(0, aR 24 0), (1, aI x1), (2, aI x2), (3, aI x3), (4, aI x4)] [] V) (h : wpX7_feed_0 (Cl UM d) I18  x1 x2 x3 V P) : Cl UM (d + 1) mX7_feed [aR 24 0, aI x1, aI x2, aI x3] V P :=
  cl_of [(0, aR 24 0), (1, aI x1), (2, aI x2), (3, aI x3)] (by decide) (fun _ => Nat.le_of_ble_eq_true rfl) (fun _ => rfl) (okX7_feed_0   x1 x2 x3 V hk18 h)
theorem dX7_trim_0 : decode cX7_trim 0 = .ok (.iload_n 1, 1) := by decide +kernel
theorem dX7_trim_1 : decode cX7_trim 1 = .ok (.iconst 0, 1) := by decide +kernel
theorem dX7_trim_2 : decode cX7_trim 2 = .ok (.aload_n 0, 1) := by decide +kernel
theorem dX7_trim_3 : decode cX7_trim 3 = .ok (.getfield 185, 3) := by decide +kernel
theorem dX7_trim_6 : decode cX7_trim 6 = .ok (.invokestatic 76, 3) := by decide +kernel
theorem dX7_trim_9 : decode cX7_trim 9 = .ok (.ifCond .ne 6, 3) := by decide +kernel
theorem dX7_trim_12 : decode cX7_trim 12 = .ok (.ldc 84, 2) := by decide +kernel
theorem dX7_trim_14 : decode cX7_trim 14 = .ok (.ireturn, 1) := by decide +kernel
theorem dX7_trim_15 : decode cX7_trim 15 = .ok (.aload_n 0, 1) := by decide +kernel
theorem dX7_trim_16 : decode cX7_trim 16 = .ok (.iload_n 1, 1) := by decide +kernel
theorem dX7_trim_17 : decode cX7_trim 17 = .ok (.putfield 185, 3) := by decide +kernel
theorem dX7_trim_20 : decode cX7_trim 20 = .ok (.iload_n 1, 1) := by decide +kernel
theorem dX7_trim_21 : decode cX7_trim 21 = .ok (.ireturn, 1) := by decide +kernel
def wpX7_trim_0 (C : CT)   (x1 : Int32) (V : Mem) (Q : Option AV → Mem → Prop) : Prop :=
  (cI C mX7_in [aI x1, aI 0, aI (V 24 0 6)] V (fun x_2 V_1 => ((¬ x_2 = 0 → (∀ V_3 : Mem, V_3 = mu V_1 24 0 6 x1 → Q (some (aI x1)) V_3)) ∧ (x_2 = 0 → Q (some (aI (-1000000001))) V_1))))
set_option maxRecDepth 10000 in
theorem okX7_trim_0 {d : Nat} {P : Option AV → Mem → Prop}    (x1 : Int32)  (V : Mem)  (h : wpX7_trim_0 (Cl UM d)   x1 V P) : Gq (Kp (d + 1) mX7_trim UM P) UM cX7_trim 2 RX7 0 [(0, aR 24 0), (1, aI x1)] [] V := by
  unfold wpX7_trim_0 at h
  refine go_iload_n (q := 1) dX7_trim_0 rfl rfl ?_
  refine go_iconst (v := 0) dX7_trim_1 (by decide) ?_
  refine go_aload_n (q := 0) dX7_trim_2 rfl rfl ?_
  refine go_geti fg_X7_185 dX7_trim_3 (mM (by decide) (by decide) rfl) ?_
  refine go_cSI (As := [aI x1, aI 0, aI (V 24 0 6)]) (st := []) ms_X7_in dX7_trim_6 ml_X7_76 (hr_Kp (Nat.le_refl d)) rfl rfl (Nat.le_of_ble_eq_true rfl) h (fun x_2 V_1 h => ?_)
  refine go_if_ne (tgt := 15) dX7_trim_9 (by decide) (fun c_4 => ?_) (fun c_4 => ?_)
  · have h := h.1 c_4
    refine go_aload_n (q := 0) dX7_trim_15 rfl rfl ?_
    refine go_iload_n (q := 1) dX7_trim_16 rfl rfl ?_
    refine go_puti fp_X7_185 dX7_trim_17 (mM (by decide) (by decide) rfl) ?_
    refine nmV (fun V_3 e_V_3 => ?_)
    have h := h V_3 e_V_3
    refine go_iload_n (q := 1) dX7_trim_20 rfl rfl ?_
    exact go_iret rfl dX7_trim_21 h
  · have h := h.2 c_4
    refine go_ldc dX7_trim_12 ct_X7_84 ?_
    exact go_iret rfl dX7_trim_14 h
theorem clX7_trim {d : Nat} {P : Option AV → Mem → Prop}    (x1 : Int32) (V : Mem)  (h : wpX7_trim_0 (Cl UM d)   x1 V P) : Cl UM (d + 1) mX7_trim [aR 24 0, aI x1] V P :=
  cl_of [(0, aR 24 0), (1, aI x1)] (by decide) (fun _ => Nat.le_of_ble_eq_true rfl) (fun _ => rfl) (okX7_trim_0   x1 V  h)
theorem dX7_isLetter_0 : decode cX7_isLetter 0 = .ok (.iload_n 1, 1) := by decide +kernel
theorem dX7_isLetter_1 : decode cX7_isLetter 1 = .ok (.aload_n 0, 1) := by decide +kernel
theorem dX7_isLetter_2 : decode cX7_isLetter 2 = .ok (.getfield 185, 3) := by decide +kernel
theorem dX7_isLetter_5 : decode cX7_isLetter 5 = .ok (.if_icmp .ge 29, 3) := by decide +kernel
theorem dX7_isLetter_8 : decode cX7_isLetter 8 = .ok (.aload_n 0, 1) := by decide +kernel
theorem dX7_isLetter_9 : decode cX7_isLetter 9 = .ok (.getfield 22, 3) := by decide +kernel
theorem dX7_isLetter_12 : decode cX7_isLetter 12 = .ok (.iload_n 1, 1) := by decide +kernel
theorem dX7_isLetter_13 : decode cX7_isLetter 13 = .ok (.iaload, 1) := by decide +kernel
theorem dX7_isLetter_14 : decode cX7_isLetter 14 = .ok (.bipush 97, 2) := by decide +kernel
theorem dX7_isLetter_16 : decode cX7_isLetter 16 = .ok (.if_icmp .lt 18, 3) := by decide +kernel
theorem dX7_isLetter_19 : decode cX7_isLetter 19 = .ok (.aload_n 0, 1) := by decide +kernel
theorem dX7_isLetter_20 : decode cX7_isLetter 20 = .ok (.getfield 22, 3) := by decide +kernel
theorem dX7_isLetter_23 : decode cX7_isLetter 23 = .ok (.iload_n 1, 1) := by decide +kernel
theorem dX7_isLetter_24 : decode cX7_isLetter 24 = .ok (.iaload, 1) := by decide +kernel
theorem dX7_isLetter_25 : decode cX7_isLetter 25 = .ok (.bipush 122, 2) := by decide +kernel
theorem dX7_isLetter_27 : decode cX7_isLetter 27 = .ok (.if_icmp .gt 7, 3) := by decide +kernel
theorem dX7_isLetter_30 : decode cX7_isLetter 30 = .ok (.iconst 1, 1) := by decide +kernel
theorem dX7_isLetter_31 : decode cX7_isLetter 31 = .ok (.goto 4, 3) := by decide +kernel
theorem dX7_isLetter_34 : decode cX7_isLetter 34 = .ok (.iconst 0, 1) := by decide +kernel
theorem dX7_isLetter_35 : decode cX7_isLetter 35 = .ok (.ireturn, 1) := by decide +kernel
def wpX7_isLetter_0 (C : CT)   (x1 : Int32) (V : Mem) (Q : Option AV → Mem → Prop) : Prop :=
  (((V 24 0 6) ≤ x1 → Q (some (aI 0)) V) ∧ (¬ (V 24 0 6) ≤ x1 → (∃ j_1 : Nat, x1 = nI j_1 ∧ j_1 < 96 ∧ (((V 29 0 j_1) < 97 → Q (some (aI 0)) V) ∧ (¬ (V 29 0 j_1) < 97 → ((122 < (V 29 0 j_1) → Q (some (aI 0)) V) ∧ (¬ 122 < (V 29 0 j_1) → Q (some (aI 1)) V)))))))
set_option maxRecDepth 10000 in
theorem okX7_isLetter_0 {d : Nat} {P : Option AV → Mem → Prop}    (x1 : Int32)  (V : Mem)  (h : wpX7_isLetter_0 (Cl UM d)   x1 V P) : Gq (Kp (d + 1) mX7_isLetter UM P) UM cX7_isLetter 2 RX7 0 [(0, aR 24 0), (1, aI x1)] [] V := by
  unfold wpX7_isLetter_0 at h
  refine go_iload_n (q := 1) dX7_isLetter_0 rfl rfl ?_
  refine go_aload_n (q := 0) dX7_isLetter_1 rfl rfl ?_
  refine go_geti fg_X7_185 dX7_isLetter_2 (mM (by decide) (by decide) rfl) ?_
  refine go_icmp_ge (tgt := 34) dX7_isLetter_5 (by decide) (fun c_4 => ?_) (fun c_4 => ?_)
  · have h := h.1 c_4
    refine go_iconst (v := 0) dX7_isLetter_34 (by decide) ?_
    exact go_bret rfl dX7_isLetter_35 (by decide) h
  · have h := h.2 c_4
    refine go_aload_n (q := 0) dX7_isLetter_8 rfl rfl ?_
    refine go_getr fg_X7_22 dX7_isLetter_9 (mM (by decide) (by decide) rfl) ?_
    refine go_iload_n (q := 1) dX7_isLetter_12 rfl rfl ?_
    obtain ⟨j_1, e_j_1, l_j_1, h⟩ := h
    refine go_iald (r := 29) (n := 96) (j := j_1) rfl (by decide) dX7_isLetter_13 (mM (by decide) (by decide) rfl) e_j_1 l_j_1 ?_
    refine go_bipush (v := 97) dX7_isLetter_14 (by decide) ?_
    refine go_icmp_lt (tgt := 34) dX7_isLetter_16 (by decide) (fun c_3 => ?_) (fun c_3 => ?_)
    · have h := h.1 c_3
      refine go_iconst (v := 0) dX7_isLetter_34 (by decide) ?_
      exact go_bret rfl dX7_isLetter_35 (by decide) h
    · have h := h.2 c_3
      refine go_aload_n (q := 0) dX7_isLetter_19 rfl rfl ?_
      refine go_getr fg_X7_22 dX7_isLetter_20 (mM (by decide) (by decide) rfl) ?_
      refine go_iload_n (q := 1) dX7_isLetter_23 rfl rfl ?_
      refine go_iald (r := 29) (n := 96) (j := j_1) rfl (by decide) dX7_isLetter_24 (mM (by decide) (by decide) rfl) e_j_1 (by omega) ?_
      refine go_bipush (v := 122) dX7_isLetter_25 (by decide) ?_
      refine go_icmp_gt (tgt := 34) dX7_isLetter_27 (by decide) (fun c_2 => ?_) (fun c_2 => ?_)
      · have h := h.1 c_2
        refine go_iconst (v := 0) dX7_isLetter_34 (by decide) ?_
        exact go_bret rfl dX7_isLetter_35 (by decide) h
      · have h := h.2 c_2
        refine go_iconst (v := 1) dX7_isLetter_30 (by decide) ?_
        refine go_goto (tgt := 35) dX7_isLetter_31 (by decide) ?_
        exact go_bret rfl dX7_isLetter_35 (by decide) h
theorem clX7_isLetter {d : Nat} {P : Option AV → Mem → Prop}    (x1 : Int32) (V : Mem)  (h : wpX7_isLetter_0 (Cl UM d)   x1 V P) : Cl UM (d + 1) mX7_isLetter [aR 24 0, aI x1] V P :=
  cl_of [(0, aR 24 0), (1, aI x1)] (by decide) (fun _ => Nat.le_of_ble_eq_true rfl) (fun _ => rfl) (okX7_isLetter_0   x1 V  h)
theorem dX7_isFigure_0 : decode cX7_isFigure 0 = .ok (.iload_n 1, 1) := by decide +kernel
theorem dX7_isFigure_1 : decode cX7_isFigure 1 = .ok (.aload_n 0, 1) := by decide +kernel
theorem dX7_isFigure_2 : decode cX7_isFigure 2 = .ok (.getfield 185, 3) := by decide +kernel
theorem dX7_isFigure_5 : decode cX7_isFigure 5 = .ok (.if_icmp .ge 29, 3) := by decide +kernel
theorem dX7_isFigure_8 : decode cX7_isFigure 8 = .ok (.aload_n 0, 1) := by decide +kernel
theorem dX7_isFigure_9 : decode cX7_isFigure 9 = .ok (.getfield 22, 3) := by decide +kernel
theorem dX7_isFigure_12 : decode cX7_isFigure 12 = .ok (.iload_n 1, 1) := by decide +kernel
theorem dX7_isFigure_13 : decode cX7_isFigure 13 = .ok (.iaload, 1) := by decide +kernel
theorem dX7_isFigure_14 : decode cX7_isFigure 14 = .ok (.bipush 48, 2) := by decide +kernel
theorem dX7_isFigure_16 : decode cX7_isFigure 16 = .ok (.if_icmp .lt 18, 3) := by decide +kernel
theorem dX7_isFigure_19 : decode cX7_isFigure 19 = .ok (.aload_n 0, 1) := by decide +kernel
theorem dX7_isFigure_20 : decode cX7_isFigure 20 = .ok (.getfield 22, 3) := by decide +kernel
theorem dX7_isFigure_23 : decode cX7_isFigure 23 = .ok (.iload_n 1, 1) := by decide +kernel
theorem dX7_isFigure_24 : decode cX7_isFigure 24 = .ok (.iaload, 1) := by decide +kernel
theorem dX7_isFigure_25 : decode cX7_isFigure 25 = .ok (.bipush 57, 2) := by decide +kernel
theorem dX7_isFigure_27 : decode cX7_isFigure 27 = .ok (.if_icmp .gt 7, 3) := by decide +kernel
theorem dX7_isFigure_30 : decode cX7_isFigure 30 = .ok (.iconst 1, 1) := by decide +kernel
theorem dX7_isFigure_31 : decode cX7_isFigure 31 = .ok (.goto 4, 3) := by decide +kernel
theorem dX7_isFigure_34 : decode cX7_isFigure 34 = .ok (.iconst 0, 1) := by decide +kernel
theorem dX7_isFigure_35 : decode cX7_isFigure 35 = .ok (.ireturn, 1) := by decide +kernel
def wpX7_isFigure_0 (C : CT)   (x1 : Int32) (V : Mem) (Q : Option AV → Mem → Prop) : Prop :=
  (((V 24 0 6) ≤ x1 → Q (some (aI 0)) V) ∧ (¬ (V 24 0 6) ≤ x1 → (∃ j_1 : Nat, x1 = nI j_1 ∧ j_1 < 96 ∧ (((V 29 0 j_1) < 48 → Q (some (aI 0)) V) ∧ (¬ (V 29 0 j_1) < 48 → ((57 < (V 29 0 j_1) → Q (some (aI 0)) V) ∧ (¬ 57 < (V 29 0 j_1) → Q (some (aI 1)) V)))))))
set_option maxRecDepth 10000 in
theorem okX7_isFigure_0 {d : Nat} {P : Option AV → Mem → Prop}    (x1 : Int32)  (V : Mem)  (h : wpX7_isFigure_0 (Cl UM d)   x1 V P) : Gq (Kp (d + 1) mX7_isFigure UM P) UM cX7_isFigure 2 RX7 0 [(0, aR 24 0), (1, aI x1)] [] V := by
  unfold wpX7_isFigure_0 at h
  refine go_iload_n (q := 1) dX7_isFigure_0 rfl rfl ?_
  refine go_aload_n (q := 0) dX7_isFigure_1 rfl rfl ?_
  refine go_geti fg_X7_185 dX7_isFigure_2 (mM (by decide) (by decide) rfl) ?_
  refine go_icmp_ge (tgt := 34) dX7_isFigure_5 (by decide) (fun c_4 => ?_) (fun c_4 => ?_)
  · have h := h.1 c_4
    refine go_iconst (v := 0) dX7_isFigure_34 (by decide) ?_
    exact go_bret rfl dX7_isFigure_35 (by decide) h
  · have h := h.2 c_4
    refine go_aload_n (q := 0) dX7_isFigure_8 rfl rfl ?_
    refine go_getr fg_X7_22 dX7_isFigure_9 (mM (by decide) (by decide) rfl) ?_
    refine go_iload_n (q := 1) dX7_isFigure_12 rfl rfl ?_
    obtain ⟨j_1, e_j_1, l_j_1, h⟩ := h
    refine go_iald (r := 29) (n := 96) (j := j_1) rfl (by decide) dX7_isFigure_13 (mM (by decide) (by decide) rfl) e_j_1 l_j_1 ?_
    refine go_bipush (v := 48) dX7_isFigure_14 (by decide) ?_
    refine go_icmp_lt (tgt := 34) dX7_isFigure_16 (by decide) (fun c_3 => ?_) (fun c_3 => ?_)
    · have h := h.1 c_3
      refine go_iconst (v := 0) dX7_isFigure_34 (by decide) ?_
      exact go_bret rfl dX7_isFigure_35 (by decide) h
    · have h := h.2 c_3
      refine go_aload_n (q := 0) dX7_isFigure_19 rfl rfl ?_
      refine go_getr fg_X7_22 dX7_isFigure_20 (mM (by decide) (by decide) rfl) ?_
      refine go_iload_n (q := 1) dX7_isFigure_23 rfl rfl ?_
      refine go_iald (r := 29) (n := 96) (j := j_1) rfl (by decide) dX7_isFigure_24 (mM (by decide) (by decide) rfl) e_j_1 (by omega) ?_
      refine go_bipush (v := 57) dX7_isFigure_25 (by decide) ?_
      refine go_icmp_gt (tgt := 34) dX7_isFigure_27 (by decide) (fun c_2 => ?_) (fun c_2 => ?_)
      · have h := h.1 c_2
        refine go_iconst (v := 0) dX7_isFigure_34 (by decide) ?_
        exact go_bret rfl dX7_isFigure_35 (by decide) h
      · have h := h.2 c_2
        refine go_iconst (v := 1) dX7_isFigure_30 (by decide) ?_
        refine go_goto (tgt := 35) dX7_isFigure_31 (by decide) ?_
        exact go_bret rfl dX7_isFigure_35 (by decide) h
theorem clX7_isFigure {d : Nat} {P : Option AV → Mem → Prop}    (x1 : Int32) (V : Mem)  (h : wpX7_isFigure_0 (Cl UM d)   x1 V P) : Cl UM (d + 1) mX7_isFigure [aR 24 0, aI x1] V P :=
  cl_of [(0, aR 24 0), (1, aI x1)] (by decide) (fun _ => Nat.le_of_ble_eq_true rfl) (fun _ => rfl) (okX7_isFigure_0   x1 V  h)
theorem dX7_go_0 : decode cX7_go 0 = .ok (.aload_n 0, 1) := by decide +kernel
theorem dX7_go_1 : decode cX7_go 1 = .ok (.getfield 189, 3) := by decide +kernel
theorem dX7_go_4 : decode cX7_go 4 = .ok (.aload_n 0, 1) := by decide +kernel
theorem dX7_go_5 : decode cX7_go 5 = .ok (.getfield 185, 3) := by decide +kernel
theorem dX7_go_8 : decode cX7_go 8 = .ok (.if_icmp .ge 30, 3) := by decide +kernel
theorem dX7_go_11 : decode cX7_go 11 = .ok (.aload_n 0, 1) := by decide +kernel
theorem dX7_go_12 : decode cX7_go 12 = .ok (.getfield 22, 3) := by decide +kernel
theorem dX7_go_15 : decode cX7_go 15 = .ok (.aload_n 0, 1) := by decide +kernel
theorem dX7_go_16 : decode cX7_go 16 = .ok (.getfield 189, 3) := by decide +kernel
theorem dX7_go_19 : decode cX7_go 19 = .ok (.iaload, 1) := by decide +kernel
theorem dX7_go_20 : decode cX7_go 20 = .ok (.bipush 32, 2) := by decide +kernel
theorem dX7_go_22 : decode cX7_go 22 = .ok (.if_icmp .ne 16, 3) := by decide +kernel
theorem dX7_go_25 : decode cX7_go 25 = .ok (.aload_n 0, 1) := by decide +kernel
theorem dX7_go_26 : decode cX7_go 26 = .ok (.dup, 1) := by decide +kernel
theorem dX7_go_27 : decode cX7_go 27 = .ok (.getfield 189, 3) := by decide +kernel
theorem dX7_go_30 : decode cX7_go 30 = .ok (.iconst 1, 1) := by decide +kernel
theorem dX7_go_31 : decode cX7_go 31 = .ok (.iadd, 1) := by decide +kernel
theorem dX7_go_32 : decode cX7_go 32 = .ok (.putfield 189, 3) := by decide +kernel
theorem dX7_go_35 : decode cX7_go 35 = .ok (.goto (-35), 3) := by decide +kernel
theorem dX7_go_38 : decode cX7_go 38 = .ok (.aload_n 0, 1) := by decide +kernel
theorem dX7_go_39 : decode cX7_go 39 = .ok (.aload_n 0, 1) := by decide +kernel
theorem dX7_go_40 : decode cX7_go 40 = .ok (.getfield 189, 3) := by decide +kernel
theorem dX7_go_43 : decode cX7_go 43 = .ok (.putfield 192, 3) := by decide +kernel
theorem dX7_go_46 : decode cX7_go 46 = .ok (.aload_n 0, 1) := by decide +kernel
theorem dX7_go_47 : decode cX7_go 47 = .ok (.getfield 192, 3) := by decide +kernel
theorem dX7_go_50 : decode cX7_go 50 = .ok (.aload_n 0, 1) := by decide +kernel
theorem dX7_go_51 : decode cX7_go 51 = .ok (.getfield 195, 3) := by decide +kernel
theorem dX7_go_54 : decode cX7_go 54 = .ok (.if_icmp .ne 7, 3) := by decide +kernel
theorem dX7_go_57 : decode cX7_go 57 = .ok (.iconst 1, 1) := by decide +kernel
theorem dX7_go_58 : decode cX7_go 58 = .ok (.goto 4, 3) := by decide +kernel
theorem dX7_go_61 : decode cX7_go 61 = .ok (.iconst 0, 1) := by decide +kernel
theorem dX7_go_62 : decode cX7_go 62 = .ok (.istore_n 1, 1) := by decide +kernel
theorem dX7_go_63 : decode cX7_go 63 = .ok (.aload_n 0, 1) := by decide +kernel
theorem dX7_go_64 : decode cX7_go 64 = .ok (.getfield 192, 3) := by decide +kernel
theorem dX7_go_67 : decode cX7_go 67 = .ok (.aload_n 0, 1) := by decide +kernel
theorem dX7_go_68 : decode cX7_go 68 = .ok (.getfield 185, 3) := by decide +kernel
theorem dX7_go_71 : decode cX7_go 71 = .ok (.if_icmp .ne 11, 3) := by decide +kernel
theorem dX7_go_74 : decode cX7_go 74 = .ok (.aload_n 0, 1) := by decide +kernel
theorem dX7_go_75 : decode cX7_go 75 = .ok (.iconst 0, 1) := by decide +kernel
theorem dX7_go_76 : decode cX7_go 76 = .ok (.putfield 198, 3) := by decide +kernel
theorem dX7_go_79 : decode cX7_go 79 = .ok (.goto 224, 3) := by decide +kernel
theorem dX7_go_82 : decode cX7_go 82 = .ok (.aload_n 0, 1) := by decide +kernel
theorem dX7_go_83 : decode cX7_go 83 = .ok (.aload_n 0, 1) := by decide +kernel
theorem dX7_go_84 : decode cX7_go 84 = .ok (.getfield 192, 3) := by decide +kernel
theorem dX7_go_87 : decode cX7_go 87 = .ok (.invokevirtual 201, 3) := by decide +kernel
theorem dX7_go_90 : decode cX7_go 90 = .ok (.ifCond .eq 64, 3) := by decide +kernel
theorem dX7_go_93 : decode cX7_go 93 = .ok (.aload_n 0, 1) := by decide +kernel
theorem dX7_go_94 : decode cX7_go 94 = .ok (.aload_n 0, 1) := by decide +kernel
theorem dX7_go_95 : decode cX7_go 95 = .ok (.getfield 189, 3) := by decide +kernel
theorem dX7_go_98 : decode cX7_go 98 = .ok (.invokevirtual 201, 3) := by decide +kernel
theorem dX7_go_101 : decode cX7_go 101 = .ok (.ifCond .eq 16, 3) := by decide +kernel
theorem dX7_go_104 : decode cX7_go 104 = .ok (.aload_n 0, 1) := by decide +kernel
theorem dX7_go_105 : decode cX7_go 105 = .ok (.dup, 1) := by decide +kernel
theorem dX7_go_106 : decode cX7_go 106 = .ok (.getfield 189, 3) := by decide +kernel
theorem dX7_go_109 : decode cX7_go 109 = .ok (.iconst 1, 1) := by decide +kernel
theorem dX7_go_110 : decode cX7_go 110 = .ok (.iadd, 1) := by decide +kernel
theorem dX7_go_111 : decode cX7_go 111 = .ok (.putfield 189, 3) := by decide +kernel
theorem dX7_go_114 : decode cX7_go 114 = .ok (.goto (-21), 3) := by decide +kernel
theorem dX7_go_117 : decode cX7_go 117 = .ok (.aload_n 0, 1) := by decide +kernel
theorem dX7_go_118 : decode cX7_go 118 = .ok (.iload_n 1, 1) := by decide +kernel
theorem dX7_go_119 : decode cX7_go 119 = .ok (.ifCond .eq 7, 3) := by decide +kernel
theorem dX7_go_122 : decode cX7_go 122 = .ok (.iconst 4, 1) := by decide +kernel
theorem dX7_go_123 : decode cX7_go 123 = .ok (.goto 4, 3) := by decide +kernel
theorem dX7_go_126 : decode cX7_go 126 = .ok (.iconst 1, 1) := by decide +kernel
theorem dX7_go_127 : decode cX7_go 127 = .ok (.putfield 198, 3) := by decide +kernel
theorem dX7_go_130 : decode cX7_go 130 = .ok (.aload_n 0, 1) := by decide +kernel
theorem dX7_go_131 : decode cX7_go 131 = .ok (.aload_n 0, 1) := by decide +kernel
theorem dX7_go_132 : decode cX7_go 132 = .ok (.getfield 22, 3) := by decide +kernel
theorem dX7_go_135 : decode cX7_go 135 = .ok (.aload_n 0, 1) := by decide +kernel
theorem dX7_go_136 : decode cX7_go 136 = .ok (.getfield 192, 3) := by decide +kernel
theorem dX7_go_139 : decode cX7_go 139 = .ok (.iaload, 1) := by decide +kernel
theorem dX7_go_140 : decode cX7_go 140 = .ok (.putfield 204, 3) := by decide +kernel
theorem dX7_go_143 : decode cX7_go 143 = .ok (.aload_n 0, 1) := by decide +kernel
theorem dX7_go_144 : decode cX7_go 144 = .ok (.aload_n 0, 1) := by decide +kernel
theorem dX7_go_145 : decode cX7_go 145 = .ok (.getfield 189, 3) := by decide +kernel
theorem dX7_go_148 : decode cX7_go 148 = .ok (.putfield 195, 3) := by decide +kernel
theorem dX7_go_151 : decode cX7_go 151 = .ok (.goto 152, 3) := by decide +kernel
theorem dX7_go_154 : decode cX7_go 154 = .ok (.aload_n 0, 1) := by decide +kernel
theorem dX7_go_155 : decode cX7_go 155 = .ok (.aload_n 0, 1) := by decide +kernel
theorem dX7_go_156 : decode cX7_go 156 = .ok (.getfield 192, 3) := by decide +kernel
theorem dX7_go_159 : decode cX7_go 159 = .ok (.invokevirtual 207, 3) := by decide +kernel
theorem dX7_go_162 : decode cX7_go 162 = .ok (.ifCond .eq 113, 3) := by decide +kernel
theorem dX7_go_165 : decode cX7_go 165 = .ok (.aload_n 0, 1) := by decide +kernel
theorem dX7_go_166 : decode cX7_go 166 = .ok (.iconst 0, 1) := by decide +kernel
theorem dX7_go_167 : decode cX7_go 167 = .ok (.putfield 204, 3) := by decide +kernel
theorem dX7_go_170 : decode cX7_go 170 = .ok (.aload_n 0, 1) := by decide +kernel
theorem dX7_go_171 : decode cX7_go 171 = .ok (.aload_n 0, 1) := by decide +kernel
theorem dX7_go_172 : decode cX7_go 172 = .ok (.getfield 189, 3) := by decide +kernel
theorem dX7_go_175 : decode cX7_go 175 = .ok (.invokevirtual 207, 3) := by decide +kernel
theorem dX7_go_178 : decode cX7_go 178 = .ok (.ifCond .eq 60, 3) := by decide +kernel
theorem dX7_go_181 : decode cX7_go 181 = .ok (.aload_n 0, 1) := by decide +kernel
theorem dX7_go_182 : decode cX7_go 182 = .ok (.aload_n 0, 1) := by decide +kernel
theorem dX7_go_183 : decode cX7_go 183 = .ok (.getfield 189, 3) := by decide +kernel
theorem dX7_go_186 : decode cX7_go 186 = .ok (.aload_n 0, 1) := by decide +kernel
theorem dX7_go_187 : decode cX7_go 187 = .ok (.getfield 192, 3) := by decide +kernel
theorem dX7_go_190 : decode cX7_go 190 = .ok (.isub, 1) := by decide +kernel
theorem dX7_go_191 : decode cX7_go 191 = .ok (.iconst 4, 1) := by decide +kernel
theorem dX7_go_192 : decode cX7_go 192 = .ok (.if_icmp .ge 26, 3) := by decide +kernel
theorem dX7_go_195 : decode cX7_go 195 = .ok (.bipush 10, 2) := by decide +kernel
theorem dX7_go_197 : decode cX7_go 197 = .ok (.aload_n 0, 1) := by decide +kernel
theorem dX7_go_198 : decode cX7_go 198 = .ok (.getfield 204, 3) := by decide +kernel
theorem dX7_go_201 : decode cX7_go 201 = .ok (.imul, 1) := by decide +kernel
theorem dX7_go_202 : decode cX7_go 202 = .ok (.aload_n 0, 1) := by decide +kernel
theorem dX7_go_203 : decode cX7_go 203 = .ok (.getfield 22, 3) := by decide +kernel
theorem dX7_go_206 : decode cX7_go 206 = .ok (.aload_n 0, 1) := by decide +kernel
theorem dX7_go_207 : decode cX7_go 207 = .ok (.getfield 189, 3) := by decide +kernel
theorem dX7_go_210 : decode cX7_go 210 = .ok (.iaload, 1) := by decide +kernel
theorem dX7_go_211 : decode cX7_go 211 = .ok (.iadd, 1) := by decide +kernel
theorem dX7_go_212 : decode cX7_go 212 = .ok (.bipush 48, 2) := by decide +kernel
theorem dX7_go_214 : decode cX7_go 214 = .ok (.isub, 1) := by decide +kernel
theorem dX7_go_215 : decode cX7_go 215 = .ok (.goto 7, 3) := by decide +kernel
theorem dX7_go_218 : decode cX7_go 218 = .ok (.aload_n 0, 1) := by decide +kernel
theorem dX7_go_219 : decode cX7_go 219 = .ok (.getfield 204, 3) := by decide +kernel
theorem dX7_go_222 : decode cX7_go 222 = .ok (.putfield 204, 3) := by decide +kernel
theorem dX7_go_225 : decode cX7_go 225 = .ok (.aload_n 0, 1) := by decide +kernel
theorem dX7_go_226 : decode cX7_go 226 = .ok (.dup, 1) := by decide +kernel
theorem dX7_go_227 : decode cX7_go 227 = .ok (.getfield 189, 3) := by decide +kernel
theorem dX7_go_230 : decode cX7_go 230 = .ok (.iconst 1, 1) := by decide +kernel
theorem dX7_go_231 : decode cX7_go 231 = .ok (.iadd, 1) := by decide +kernel
theorem dX7_go_232 : decode cX7_go 232 = .ok (.putfield 189, 3) := by decide +kernel
theorem dX7_go_235 : decode cX7_go 235 = .ok (.goto (-65), 3) := by decide +kernel
theorem dX7_go_238 : decode cX7_go 238 = .ok (.aload_n 0, 1) := by decide +kernel
theorem dX7_go_239 : decode cX7_go 239 = .ok (.iload_n 1, 1) := by decide +kernel
theorem dX7_go_240 : decode cX7_go 240 = .ok (.ifCond .ne 16, 3) := by decide +kernel
theorem dX7_go_243 : decode cX7_go 243 = .ok (.aload_n 0, 1) := by decide +kernel
theorem dX7_go_244 : decode cX7_go 244 = .ok (.getfield 189, 3) := by decide +kernel
theorem dX7_go_247 : decode cX7_go 247 = .ok (.aload_n 0, 1) := by decide +kernel
theorem dX7_go_248 : decode cX7_go 248 = .ok (.getfield 192, 3) := by decide +kernel
theorem dX7_go_251 : decode cX7_go 251 = .ok (.isub, 1) := by decide +kernel
theorem dX7_go_252 : decode cX7_go 252 = .ok (.iconst 4, 1) := by decide +kernel
theorem dX7_go_253 : decode cX7_go 253 = .ok (.if_icmp .le 7, 3) := by decide +kernel
theorem dX7_go_256 : decode cX7_go 256 = .ok (.iconst 4, 1) := by decide +kernel
theorem dX7_go_257 : decode cX7_go 257 = .ok (.goto 4, 3) := by decide +kernel
theorem dX7_go_260 : decode cX7_go 260 = .ok (.iconst 2, 1) := by decide +kernel
theorem dX7_go_261 : decode cX7_go 261 = .ok (.putfield 198, 3) := by decide +kernel
theorem dX7_go_264 : decode cX7_go 264 = .ok (.aload_n 0, 1) := by decide +kernel
theorem dX7_go_265 : decode cX7_go 265 = .ok (.aload_n 0, 1) := by decide +kernel
theorem dX7_go_266 : decode cX7_go 266 = .ok (.getfield 189, 3) := by decide +kernel
theorem dX7_go_269 : decode cX7_go 269 = .ok (.putfield 195, 3) := by decide +kernel
theorem dX7_go_272 : decode cX7_go 272 = .ok (.goto 31, 3) := by decide +kernel
theorem dX7_go_275 : decode cX7_go 275 = .ok (.aload_n 0, 1) := by decide +kernel
theorem dX7_go_276 : decode cX7_go 276 = .ok (.iconst 3, 1) := by decide +kernel
theorem dX7_go_277 : decode cX7_go 277 = .ok (.putfield 198, 3) := by decide +kernel
theorem dX7_go_280 : decode cX7_go 280 = .ok (.aload_n 0, 1) := by decide +kernel
theorem dX7_go_281 : decode cX7_go 281 = .ok (.aload_n 0, 1) := by decide +kernel
theorem dX7_go_282 : decode cX7_go 282 = .ok (.getfield 22, 3) := by decide +kernel
theorem dX7_go_285 : decode cX7_go 285 = .ok (.aload_n 0, 1) := by decide +kernel
theorem dX7_go_286 : decode cX7_go 286 = .ok (.getfield 192, 3) := by decide +kernel
theorem dX7_go_289 : decode cX7_go 289 = .ok (.iaload, 1) := by decide +kernel
theorem dX7_go_290 : decode cX7_go 290 = .ok (.putfield 204, 3) := by decide +kernel
theorem dX7_go_293 : decode cX7_go 293 = .ok (.aload_n 0, 1) := by decide +kernel
theorem dX7_go_294 : decode cX7_go 294 = .ok (.dup, 1) := by decide +kernel
theorem dX7_go_295 : decode cX7_go 295 = .ok (.getfield 189, 3) := by decide +kernel
theorem dX7_go_298 : decode cX7_go 298 = .ok (.iconst 1, 1) := by decide +kernel
theorem dX7_go_299 : decode cX7_go 299 = .ok (.iadd, 1) := by decide +kernel
theorem dX7_go_300 : decode cX7_go 300 = .ok (.putfield 189, 3) := by decide +kernel
theorem dX7_go_303 : decode cX7_go 303 = .ok (.return_, 1) := by decide +kernel
def wpX7_go_256 (C : CT) (I0 : Mem → Prop) (I93 : Int32 → Mem → Prop) (I170 : Int32 → Mem → Prop)  (x1 : Int32) (V : Mem) (Q : Option AV → Mem → Prop) : Prop :=
  (∀ V_1 : Mem, V_1 = mu V 24 0 9 4 → (∀ V_2 : Mem, V_2 = mu V_1 24 0 11 (V_1 24 0 7) → Q none V_2))
set_option maxRecDepth 10000 in
theorem okX7_go_256 {d : Nat} {P : Option AV → Mem → Prop} {I0 : Mem → Prop} {I93 : Int32 → Mem → Prop} {I170 : Int32 → Mem → Prop}   (x1 : Int32)  (V : Mem) (hk0 : ∀ (V : Mem), I0  V → Gq (Kp (d + 1) mX7_go UM P) UM cX7_go 2 RX7 0 [(0, aR 24 0)] [] V) (hk93 : ∀ (x1 : Int32), ∀ (V : Mem), I93 x1 V → Gq (Kp (d + 1) mX7_go UM P) UM cX7_go 2 RX7 93 [(0, aR 24 0), (1, aI x1)] [] V) (hk170 : ∀ (x1 : Int32), ∀ (V : Mem), I170 x1 V → Gq (Kp (d + 1) mX7_go UM P) UM cX7_go 2 RX7 170 [(0, aR 24 0), (1, aI x1)] [] V) (h : wpX7_go_256 (Cl UM d) I0 I93 I170  x1 V P) : Gq (Kp (d + 1) mX7_go UM P) UM cX7_go 2 RX7 256 [(0, aR 24 0), (1, aI x1)] [aR 24 0] V := by
  unfold wpX7_go_256 at h
  refine go_iconst (v := 4) dX7_go_256 (by decide) ?_
  refine go_goto (tgt := 261) dX7_go_257 (by decide) ?_
  refine go_puti fp_X7_198 dX7_go_261 (mM (by decide) (by decide) rfl) ?_
  refine nmV (fun V_1 e_V_1 => ?_)
  have h := h V_1 e_V_1
  refine go_aload_n (q := 0) dX7_go_264 rfl rfl ?_
  refine go_aload_n (q := 0) dX7_go_265 rfl rfl ?_
  refine go_geti fg_X7_189 dX7_go_266 (mM (by decide) (by decide) rfl) ?_
  refine go_puti fp_X7_195 dX7_go_269 (mM (by decide) (by decide) rfl) ?_
  refine nmV (fun V_2 e_V_2 => ?_)
  have h := h V_2 e_V_2
  refine go_goto (tgt := 303) dX7_go_272 (by decide) ?_
  exact go_vret rfl dX7_go_303 h
def wpX7_go_222 (C : CT) (I0 : Mem → Prop) (I93 : Int32 → Mem → Prop) (I170 : Int32 → Mem → Prop)  (x1 : Int32) (s0 : Int32) (V : Mem) (Q : Option AV → Mem → Prop) : Prop :=
  (∀ V_1 : Mem, V_1 = mu V 24 0 10 s0 → (∀ V_2 : Mem, V_2 = mu V_1 24 0 7 ((V_1 24 0 7) + 1) → I170 x1 V_2))
set_option maxRecDepth 10000 in
theorem okX7_go_222 {d : Nat} {P : Option AV → Mem → Prop} {I0 : Mem → Prop} {I93 : Int32 → Mem → Prop} {I170 : Int32 → Mem → Prop}   (x1 : Int32) (s0 : Int32)  (V : Mem) (hk0 : ∀ (V : Mem), I0  V → Gq (Kp (d + 1) mX7_go UM P) UM cX7_go 2 RX7 0 [(0, aR 24 0)] [] V) (hk93 : ∀ (x1 : Int32), ∀ (V : Mem), I93 x1 V → Gq (Kp (d + 1) mX7_go UM P) UM cX7_go 2 RX7 93 [(0, aR 24 0), (1, aI x1)] [] V) (hk170 : ∀ (x1 : Int32), ∀ (V : Mem), I170 x1 V → Gq (Kp (d + 1) mX7_go UM P) UM cX7_go 2 RX7 170 [(0, aR 24 0), (1, aI x1)] [] V) (h : wpX7_go_222 (Cl UM d) I0 I93 I170  x1 s0 V P) : Gq (Kp (d + 1) mX7_go UM P) UM cX7_go 2 RX7 222 [(0, aR 24 0), (1, aI x1)] [aI s0, aR 24 0] V := by
  unfold wpX7_go_222 at h
  refine go_puti fp_X7_204 dX7_go_222 (mM (by decide) (by decide) rfl) ?_
  refine nmV (fun V_1 e_V_1 => ?_)
  have h := h V_1 e_V_1
  refine go_aload_n (q := 0) dX7_go_225 rfl rfl ?_
  refine go_dup dX7_go_226 rfl ?_
  refine go_geti fg_X7_189 dX7_go_227 (mM (by decide) (by decide) rfl) ?_
  refine go_iconst (v := 1) dX7_go_230 (by decide) ?_
  refine go_iadd dX7_go_231 ?_
  refine go_puti fp_X7_189 dX7_go_232 (mM (by decide) (by decide) rfl) ?_
  refine nmV (fun V_2 e_V_2 => ?_)
  have h := h V_2 e_V_2
  refine go_goto (tgt := 170) dX7_go_235 (by decide) ?_
  exact hk170 x1  V_2 h
def wpX7_go_170 (C : CT) (I0 : Mem → Prop) (I93 : Int32 → Mem → Prop) (I170 : Int32 → Mem → Prop)  (x1 : Int32) (V : Mem) (Q : Option AV → Mem → Prop) : Prop :=
  (cI C mX7_isFigure [aR 24 0, aI (V 24 0 7)] V (fun x_2 V_1 => ((x_2 = 0 → ((¬ x1 = 0 → wpX7_go_256 C I0 I93 I170  x1 V_1 Q) ∧ (x1 = 0 → ((((V_1 24 0 7) - (V_1 24 0 8)) ≤ 4 → (∀ V_3 : Mem, V_3 = mu V_1 24 0 9 2 → (∀ V_4 : Mem, V_4 = mu V_3 24 0 11 (V_3 24 0 7) → Q none V_4))) ∧ (¬ ((V_1 24 0 7) - (V_1 24 0 8)) ≤ 4 → wpX7_go_256 C I0 I93 I170  x1 V_1 Q))))) ∧ (¬ x_2 = 0 → ((4 ≤ ((V_1 24 0 7) - (V_1 24 0 8)) → wpX7_go_222 C I0 I93 I170  x1 (V_1 24 0 10) V_1 Q) ∧ (¬ 4 ≤ ((V_1 24 0 7) - (V_1 24 0 8)) → (∃ j_7 : Nat, (V_1 24 0 7) = nI j_7 ∧ j_7 < 96 ∧ wpX7_go_222 C I0 I93 I170  x1 (((10 * (V_1 24 0 10)) + (V_1 29 0 j_7)) - 48) V_1 Q)))))))
set_option maxRecDepth 10000 in
theorem okX7_go_170 {d : Nat} {P : Option AV → Mem → Prop} {I0 : Mem → Prop} {I93 : Int32 → Mem → Prop} {I170 : Int32 → Mem → Prop}   (x1 : Int32)  (V : Mem) (hk0 : ∀ (V : Mem), I0  V → Gq (Kp (d + 1) mX7_go UM P) UM cX7_go 2 RX7 0 [(0, aR 24 0)] [] V) (hk93 : ∀ (x1 : Int32), ∀ (V : Mem), I93 x1 V → Gq (Kp (d + 1) mX7_go UM P) UM cX7_go 2 RX7 93 [(0, aR 24 0), (1, aI x1)] [] V) (hk170 : ∀ (x1 : Int32), ∀ (V : Mem), I170 x1 V → Gq (Kp (d + 1) mX7_go UM P) UM cX7_go 2 RX7 170 [(0, aR 24 0), (1, aI x1)] [] V) (h : wpX7_go_170 (Cl UM d) I0 I93 I170  x1 V P) : Gq (Kp (d + 1) mX7_go UM P) UM cX7_go 2 RX7 170 [(0, aR 24 0), (1, aI x1)] [] V := by
  unfold wpX7_go_170 at h
  refine go_aload_n (q := 0) dX7_go_170 rfl rfl ?_
  refine go_aload_n (q := 0) dX7_go_171 rfl rfl ?_
  refine go_geti fg_X7_189 dX7_go_172 (mM (by decide) (by decide) rfl) ?_
  refine go_cVI (As := [aI (V 24 0 7)]) (st := []) (r := 24) (i := 0) mv_X7_isFigure dX7_go_175 ml_X7_207 (hr_Kp (Nat.le_refl d)) rfl rfl (mM (by decide) (by decide) rfl) rfl rfl (Nat.le_of_ble_eq_true rfl) h (fun x_2 V_1 h => ?_)
  refine go_if_eq (tgt := 238) dX7_go_178 (by decide) (fun c_9 => ?_) (fun c_9 => ?_)
  · have h := h.1 c_9
    refine go_aload_n (q := 0) dX7_go_238 rfl rfl ?_
    refine go_iload_n (q := 1) dX7_go_239 rfl rfl ?_
    refine go_if_ne (tgt := 256) dX7_go_240 (by decide) (fun c_6 => ?_) (fun c_6 => ?_)
    · have h := h.1 c_6
      exact okX7_go_256   x1  V_1 hk0 hk93 hk170 h
    · have h := h.2 c_6
      refine go_aload_n (q := 0) dX7_go_243 rfl rfl ?_
      refine go_geti fg_X7_189 dX7_go_244 (mM (by decide) (by decide) rfl) ?_
      refine go_aload_n (q := 0) dX7_go_247 rfl rfl ?_
      refine go_geti fg_X7_192 dX7_go_248 (mM (by decide) (by decide) rfl) ?_
      refine go_isub dX7_go_251 ?_
      refine go_iconst (v := 4) dX7_go_252 (by decide) ?_
      refine go_icmp_le (tgt := 260) dX7_go_253 (by decide) (fun c_5 => ?_) (fun c_5 => ?_)
      · have h := h.1 c_5
        refine go_iconst (v := 2) dX7_go_260 (by decide) ?_
        refine go_puti fp_X7_198 dX7_go_261 (mM (by decide) (by decide) rfl) ?_
        refine nmV (fun V_3 e_V_3 => ?_)
        have h := h V_3 e_V_3
        refine go_aload_n (q := 0) dX7_go_264 rfl rfl ?_
        refine go_aload_n (q := 0) dX7_go_265 rfl rfl ?_
        refine go_geti fg_X7_189 dX7_go_266 (mM (by decide) (by decide) rfl) ?_
        refine go_puti fp_X7_195 dX7_go_269 (mM (by decide) (by decide) rfl) ?_
        refine nmV (fun V_4 e_V_4 => ?_)
        have h := h V_4 e_V_4
        refine go_goto (tgt := 303) dX7_go_272 (by decide) ?_
        exact go_vret rfl dX7_go_303 h
      · have h := h.2 c_5
        exact okX7_go_256   x1  V_1 hk0 hk93 hk170 h
  · have h := h.2 c_9
    refine go_aload_n (q := 0) dX7_go_181 rfl rfl ?_
    refine go_aload_n (q := 0) dX7_go_182 rfl rfl ?_
    refine go_geti fg_X7_189 dX7_go_183 (mM (by decide) (by decide) rfl) ?_
    refine go_aload_n (q := 0) dX7_go_186 rfl rfl ?_
    refine go_geti fg_X7_192 dX7_go_187 (mM (by decide) (by decide) rfl) ?_
    refine go_isub dX7_go_190 ?_
    refine go_iconst (v := 4) dX7_go_191 (by decide) ?_
    refine go_icmp_ge (tgt := 218) dX7_go_192 (by decide) (fun c_8 => ?_) (fun c_8 => ?_)
    · have h := h.1 c_8
      refine go_aload_n (q := 0) dX7_go_218 rfl rfl ?_
      refine go_geti fg_X7_204 dX7_go_219 (mM (by decide) (by decide) rfl) ?_
      exact okX7_go_222   x1 (V_1 24 0 10)  V_1 hk0 hk93 hk170 h
    · have h := h.2 c_8
      refine go_bipush (v := 10) dX7_go_195 (by decide) ?_
      refine go_aload_n (q := 0) dX7_go_197 rfl rfl ?_
      refine go_geti fg_X7_204 dX7_go_198 (mM (by decide) (by decide) rfl) ?_
      refine go_imul dX7_go_201 ?_
      refine go_aload_n (q := 0) dX7_go_202 rfl rfl ?_
      refine go_getr fg_X7_22 dX7_go_203 (mM (by decide) (by decide) rfl) ?_
      refine go_aload_n (q := 0) dX7_go_206 rfl rfl ?_
      refine go_geti fg_X7_189 dX7_go_207 (mM (by decide) (by decide) rfl) ?_
      obtain ⟨j_7, e_j_7, l_j_7, h⟩ := h
      refine go_iald (r := 29) (n := 96) (j := j_7) rfl (by decide) dX7_go_210 (mM (by decide) (by decide) rfl) e_j_7 l_j_7 ?_
      refine go_iadd dX7_go_211 ?_
      refine go_bipush (v := 48) dX7_go_212 (by decide) ?_
      refine go_isub dX7_go_214 ?_
      refine go_goto (tgt := 222) dX7_go_215 (by decide) ?_
      exact okX7_go_222   x1 (((10 * (V_1 24 0 10)) + (V_1 29 0 j_7)) - 48)  V_1 hk0 hk93 hk170 h
def wpX7_go_127 (C : CT) (I0 : Mem → Prop) (I93 : Int32 → Mem → Prop) (I170 : Int32 → Mem → Prop)  (x1 : Int32) (s0 : Int32) (V : Mem) (Q : Option AV → Mem → Prop) : Prop :=
  (∀ V_1 : Mem, V_1 = mu V 24 0 9 s0 → (∃ j_2 : Nat, (V_1 24 0 8) = nI j_2 ∧ j_2 < 96 ∧ (∀ V_3 : Mem, V_3 = mu V_1 24 0 10 (V_1 29 0 j_2) → (∀ V_4 : Mem, V_4 = mu V_3 24 0 11 (V_3 24 0 7) → Q none V_4))))
set_option maxRecDepth 10000 in
theorem okX7_go_127 {d : Nat} {P : Option AV → Mem → Prop} {I0 : Mem → Prop} {I93 : Int32 → Mem → Prop} {I170 : Int32 → Mem → Prop}   (x1 : Int32) (s0 : Int32)  (V : Mem) (hk0 : ∀ (V : Mem), I0  V → Gq (Kp (d + 1) mX7_go UM P) UM cX7_go 2 RX7 0 [(0, aR 24 0)] [] V) (hk93 : ∀ (x1 : Int32), ∀ (V : Mem), I93 x1 V → Gq (Kp (d + 1) mX7_go UM P) UM cX7_go 2 RX7 93 [(0, aR 24 0), (1, aI x1)] [] V) (hk170 : ∀ (x1 : Int32), ∀ (V : Mem), I170 x1 V → Gq (Kp (d + 1) mX7_go UM P) UM cX7_go 2 RX7 170 [(0, aR 24 0), (1, aI x1)] [] V) (h : wpX7_go_127 (Cl UM d) I0 I93 I170  x1 s0 V P) : Gq (Kp (d + 1) mX7_go UM P) UM cX7_go 2 RX7 127 [(0, aR 24 0), (1, aI x1)] [aI s0, aR 24 0] V := by
  unfold wpX7_go_127 at h
  refine go_puti fp_X7_198 dX7_go_127 (mM (by decide) (by decide) rfl) ?_
  refine nmV (fun V_1 e_V_1 => ?_)
  have h := h V_1 e_V_1
  refine go_aload_n (q := 0) dX7_go_130 rfl rfl ?_
  refine go_aload_n (q := 0) dX7_go_131 rfl rfl ?_
  refine go_getr fg_X7_22 dX7_go_132 (mM (by decide) (by decide) rfl) ?_
  refine go_aload_n (q := 0) dX7_go_135 rfl rfl ?_
  refine go_geti fg_X7_192 dX7_go_136 (mM (by decide) (by decide) rfl) ?_
  obtain ⟨j_2, e_j_2, l_j_2, h⟩ := h
  refine go_iald (r := 29) (n := 96) (j := j_2) rfl (by decide) dX7_go_139 (mM (by decide) (by decide) rfl) e_j_2 l_j_2 ?_
  refine go_puti fp_X7_204 dX7_go_140 (mM (by decide) (by decide) rfl) ?_
  refine nmV (fun V_3 e_V_3 => ?_)
  have h := h V_3 e_V_3
  refine go_aload_n (q := 0) dX7_go_143 rfl rfl ?_
  refine go_aload_n (q := 0) dX7_go_144 rfl rfl ?_
  refine go_geti fg_X7_189 dX7_go_145 (mM (by decide) (by decide) rfl) ?_
  refine go_puti fp_X7_195 dX7_go_148 (mM (by decide) (by decide) rfl) ?_
  refine nmV (fun V_4 e_V_4 => ?_)
  have h := h V_4 e_V_4
  refine go_goto (tgt := 303) dX7_go_151 (by decide) ?_
  exact go_vret rfl dX7_go_303 h
def wpX7_go_93 (C : CT) (I0 : Mem → Prop) (I93 : Int32 → Mem → Prop) (I170 : Int32 → Mem → Prop)  (x1 : Int32) (V : Mem) (Q : Option AV → Mem → Prop) : Prop :=
  (cI C mX7_isLetter [aR 24 0, aI (V 24 0 7)] V (fun x_2 V_1 => ((x_2 = 0 → ((x1 = 0 → wpX7_go_127 C I0 I93 I170  x1 1 V_1 Q) ∧ (¬ x1 = 0 → wpX7_go_127 C I0 I93 I170  x1 4 V_1 Q))) ∧ (¬ x_2 = 0 → (∀ V_4 : Mem, V_4 = mu V_1 24 0 7 ((V_1 24 0 7) + 1) → I93 x1 V_4)))))
set_option maxRecDepth 10000 in
theorem okX7_go_93 {d : Nat} {P : Option AV → Mem → Prop} {I0 : Mem → Prop} {I93 : Int32 → Mem → Prop} {I170 : Int32 → Mem → Prop}   (x1 : Int32)  (V : Mem) (hk0 : ∀ (V : Mem), I0  V → Gq (Kp (d + 1) mX7_go UM P) UM cX7_go 2 RX7 0 [(0, aR 24 0)] [] V) (hk93 : ∀ (x1 : Int32), ∀ (V : Mem), I93 x1 V → Gq (Kp (d + 1) mX7_go UM P) UM cX7_go 2 RX7 93 [(0, aR 24 0), (1, aI x1)] [] V) (hk170 : ∀ (x1 : Int32), ∀ (V : Mem), I170 x1 V → Gq (Kp (d + 1) mX7_go UM P) UM cX7_go 2 RX7 170 [(0, aR 24 0), (1, aI x1)] [] V) (h : wpX7_go_93 (Cl UM d) I0 I93 I170  x1 V P) : Gq (Kp (d + 1) mX7_go UM P) UM cX7_go 2 RX7 93 [(0, aR 24 0), (1, aI x1)] [] V := by
  unfold wpX7_go_93 at h
  refine go_aload_n (q := 0) dX7_go_93 rfl rfl ?_
  refine go_aload_n (q := 0) dX7_go_94 rfl rfl ?_
  refine go_geti fg_X7_189 dX7_go_95 (mM (by decide) (by decide) rfl) ?_
  refine go_cVI (As := [aI (V 24 0 7)]) (st := []) (r := 24) (i := 0) mv_X7_isLetter dX7_go_98 ml_X7_201 (hr_Kp (Nat.le_refl d)) rfl rfl (mM (by decide) (by decide) rfl) rfl rfl (Nat.le_of_ble_eq_true rfl) h (fun x_2 V_1 h => ?_)
  refine go_if_eq (tgt := 117) dX7_go_101 (by decide) (fun c_5 => ?_) (fun c_5 => ?_)
  · have h := h.1 c_5
    refine go_aload_n (q := 0) dX7_go_117 rfl rfl ?_
    refine go_iload_n (q := 1) dX7_go_118 rfl rfl ?_
    refine go_if_eq (tgt := 126) dX7_go_119 (by decide) (fun c_3 => ?_) (fun c_3 => ?_)
    · have h := h.1 c_3
      refine go_iconst (v := 1) dX7_go_126 (by decide) ?_
      exact okX7_go_127   x1 1  V_1 hk0 hk93 hk170 h
    · have h := h.2 c_3
      refine go_iconst (v := 4) dX7_go_122 (by decide) ?_
      refine go_goto (tgt := 127) dX7_go_123 (by decide) ?_
      exact okX7_go_127   x1 4  V_1 hk0 hk93 hk170 h
  · have h := h.2 c_5
    refine go_aload_n (q := 0) dX7_go_104 rfl rfl ?_
    refine go_dup dX7_go_105 rfl ?_
    refine go_geti fg_X7_189 dX7_go_106 (mM (by decide) (by decide) rfl) ?_
    refine go_iconst (v := 1) dX7_go_109 (by decide) ?_
    refine go_iadd dX7_go_110 ?_
    refine go_puti fp_X7_189 dX7_go_111 (mM (by decide) (by decide) rfl) ?_
    refine nmV (fun V_4 e_V_4 => ?_)
    have h := h V_4 e_V_4
    refine go_goto (tgt := 93) dX7_go_114 (by decide) ?_
    exact hk93 x1  V_4 h
def wpX7_go_62 (C : CT) (I0 : Mem → Prop) (I93 : Int32 → Mem → Prop) (I170 : Int32 → Mem → Prop)  (s0 : Int32) (V : Mem) (Q : Option AV → Mem → Prop) : Prop :=
  ((¬ (V 24 0 8) = (V 24 0 6) → (cI C mX7_isLetter [aR 24 0, aI (V 24 0 8)] V (fun x_2 V_1 => ((x_2 = 0 → (cI C mX7_isFigure [aR 24 0, aI (V_1 24 0 8)] V_1 (fun x_4 V_3 => ((x_4 = 0 → (∀ V_5 : Mem, V_5 = mu V_3 24 0 9 3 → (∃ j_6 : Nat, (V_5 24 0 8) = nI j_6 ∧ j_6 < 96 ∧ (∀ V_7 : Mem, V_7 = mu V_5 24 0 10 (V_5 29 0 j_6) → (∀ V_8 : Mem, V_8 = mu V_7 24 0 7 ((V_7 24 0 7) + 1) → Q none V_8))))) ∧ (¬ x_4 = 0 → (∀ V_9 : Mem, V_9 = mu V_3 24 0 10 0 → I170 s0 V_9)))))) ∧ (¬ x_2 = 0 → I93 s0 V_1))))) ∧ ((V 24 0 8) = (V 24 0 6) → (∀ V_12 : Mem, V_12 = mu V 24 0 9 0 → Q none V_12)))
set_option maxRecDepth 10000 in
theorem okX7_go_62 {d : Nat} {P : Option AV → Mem → Prop} {I0 : Mem → Prop} {I93 : Int32 → Mem → Prop} {I170 : Int32 → Mem → Prop}   (s0 : Int32)  (V : Mem) (hk0 : ∀ (V : Mem), I0  V → Gq (Kp (d + 1) mX7_go UM P) UM cX7_go 2 RX7 0 [(0, aR 24 0)] [] V) (hk93 : ∀ (x1 : Int32), ∀ (V : Mem), I93 x1 V → Gq (Kp (d + 1) mX7_go UM P) UM cX7_go 2 RX7 93 [(0, aR 24 0), (1, aI x1)] [] V) (hk170 : ∀ (x1 : Int32), ∀ (V : Mem), I170 x1 V → Gq (Kp (d + 1) mX7_go UM P) UM cX7_go 2 RX7 170 [(0, aR 24 0), (1, aI x1)] [] V) (h : wpX7_go_62 (Cl UM d) I0 I93 I170  s0 V P) : Gq (Kp (d + 1) mX7_go UM P) UM cX7_go 2 RX7 62 [(0, aR 24 0)] [aI s0] V := by
  unfold wpX7_go_62 at h
  refine go_istore_n (al1 := [(1, aI s0), (0, aR 24 0)]) dX7_go_62 rfl (by decide) rfl ?_
  refine go_aload_n (q := 1) dX7_go_63 rfl rfl ?_
  refine go_geti fg_X7_192 dX7_go_64 (mM (by decide) (by decide) rfl) ?_
  refine go_aload_n (q := 1) dX7_go_67 rfl rfl ?_
  refine go_geti fg_X7_185 dX7_go_68 (mM (by decide) (by decide) rfl) ?_
  refine go_icmp_ne (tgt := 82) dX7_go_71 (by decide) (fun c_13 => ?_) (fun c_13 => ?_)
  · have h := h.1 c_13
    refine go_aload_n (q := 1) dX7_go_82 rfl rfl ?_
    refine go_aload_n (q := 1) dX7_go_83 rfl rfl ?_
    refine go_geti fg_X7_192 dX7_go_84 (mM (by decide) (by decide) rfl) ?_
    refine go_cVI (As := [aI (V 24 0 8)]) (st := []) (r := 24) (i := 0) mv_X7_isLetter dX7_go_87 ml_X7_201 (hr_Kp (Nat.le_refl d)) rfl rfl (mM (by decide) (by decide) rfl) rfl rfl (Nat.le_of_ble_eq_true rfl) h (fun x_2 V_1 h => ?_)
    refine go_if_eq (tgt := 154) dX7_go_90 (by decide) (fun c_11 => ?_) (fun c_11 => ?_)
    · have h := h.1 c_11
      refine go_aload_n (q := 1) dX7_go_154 rfl rfl ?_
      refine go_aload_n (q := 1) dX7_go_155 rfl rfl ?_
      refine go_geti fg_X7_192 dX7_go_156 (mM (by decide) (by decide) rfl) ?_
      refine go_cVI (As := [aI (V_1 24 0 8)]) (st := []) (r := 24) (i := 0) mv_X7_isFigure dX7_go_159 ml_X7_207 (hr_Kp (Nat.le_refl d)) rfl rfl (mM (by decide) (by decide) rfl) rfl rfl (Nat.le_of_ble_eq_true rfl) h (fun x_4 V_3 h => ?_)
      refine go_if_eq (tgt := 275) dX7_go_162 (by decide) (fun c_10 => ?_) (fun c_10 => ?_)
      · have h := h.1 c_10
        refine go_aload_n (q := 1) dX7_go_275 rfl rfl ?_
        refine go_iconst (v := 3) dX7_go_276 (by decide) ?_
        refine go_puti fp_X7_198 dX7_go_277 (mM (by decide) (by decide) rfl) ?_
        refine nmV (fun V_5 e_V_5 => ?_)
        have h := h V_5 e_V_5
        refine go_aload_n (q := 1) dX7_go_280 rfl rfl ?_
        refine go_aload_n (q := 1) dX7_go_281 rfl rfl ?_
        refine go_getr fg_X7_22 dX7_go_282 (mM (by decide) (by decide) rfl) ?_
        refine go_aload_n (q := 1) dX7_go_285 rfl rfl ?_
        refine go_geti fg_X7_192 dX7_go_286 (mM (by decide) (by decide) rfl) ?_
        obtain ⟨j_6, e_j_6, l_j_6, h⟩ := h
        refine go_iald (r := 29) (n := 96) (j := j_6) rfl (by decide) dX7_go_289 (mM (by decide) (by decide) rfl) e_j_6 l_j_6 ?_
        refine go_puti fp_X7_204 dX7_go_290 (mM (by decide) (by decide) rfl) ?_
        refine nmV (fun V_7 e_V_7 => ?_)
        have h := h V_7 e_V_7
        refine go_aload_n (q := 1) dX7_go_293 rfl rfl ?_
        refine go_dup dX7_go_294 rfl ?_
        refine go_geti fg_X7_189 dX7_go_295 (mM (by decide) (by decide) rfl) ?_
        refine go_iconst (v := 1) dX7_go_298 (by decide) ?_
        refine go_iadd dX7_go_299 ?_
        refine go_puti fp_X7_189 dX7_go_300 (mM (by decide) (by decide) rfl) ?_
        refine nmV (fun V_8 e_V_8 => ?_)
        have h := h V_8 e_V_8
        exact go_vret rfl dX7_go_303 h
      · have h := h.2 c_10
        refine go_aload_n (q := 1) dX7_go_165 rfl rfl ?_
        refine go_iconst (v := 0) dX7_go_166 (by decide) ?_
        refine go_puti fp_X7_204 dX7_go_167 (mM (by decide) (by decide) rfl) ?_
        refine nmV (fun V_9 e_V_9 => ?_)
        have h := h V_9 e_V_9
        refine go_sub (al1 := [(0, aR 24 0), (1, aI s0)]) [1, 0] rfl ?_
        exact hk170 s0  V_9 h
    · have h := h.2 c_11
      refine go_sub (al1 := [(0, aR 24 0), (1, aI s0)]) [1, 0] rfl ?_
      exact hk93 s0  V_1 h
  · have h := h.2 c_13
    refine go_aload_n (q := 1) dX7_go_74 rfl rfl ?_
    refine go_iconst (v := 0) dX7_go_75 (by decide) ?_
    refine go_puti fp_X7_198 dX7_go_76 (mM (by decide) (by decide) rfl) ?_
    refine nmV (fun V_12 e_V_12 => ?_)
    have h := h V_12 e_V_12
    refine go_goto (tgt := 303) dX7_go_79 (by decide) ?_
    exact go_vret rfl dX7_go_303 h
def wpX7_go_38 (C : CT) (I0 : Mem → Prop) (I93 : Int32 → Mem → Prop) (I170 : Int32 → Mem → Prop)   (V : Mem) (Q : Option AV → Mem → Prop) : Prop :=
  (∀ V_1 : Mem, V_1 = mu V 24 0 8 (V 24 0 7) → ((¬ (V_1 24 0 8) = (V_1 24 0 11) → wpX7_go_62 C I0 I93 I170  0 V_1 Q) ∧ ((V_1 24 0 8) = (V_1 24 0 11) → wpX7_go_62 C I0 I93 I170  1 V_1 Q)))
set_option maxRecDepth 10000 in
theorem okX7_go_38 {d : Nat} {P : Option AV → Mem → Prop} {I0 : Mem → Prop} {I93 : Int32 → Mem → Prop} {I170 : Int32 → Mem → Prop}     (V : Mem) (hk0 : ∀ (V : Mem), I0  V → Gq (Kp (d + 1) mX7_go UM P) UM cX7_go 2 RX7 0 [(0, aR 24 0)] [] V) (hk93 : ∀ (x1 : Int32), ∀ (V : Mem), I93 x1 V → Gq (Kp (d + 1) mX7_go UM P) UM cX7_go 2 RX7 93 [(0, aR 24 0), (1, aI x1)] [] V) (hk170 : ∀ (x1 : Int32), ∀ (V : Mem), I170 x1 V → Gq (Kp (d + 1) mX7_go UM P) UM cX7_go 2 RX7 170 [(0, aR 24 0), (1, aI x1)] [] V) (h : wpX7_go_38 (Cl UM d) I0 I93 I170   V P) : Gq (Kp (d + 1) mX7_go UM P) UM cX7_go 2 RX7 38 [(0, aR 24 0)] [] V := by
  unfold wpX7_go_38 at h
  refine go_aload_n (q := 0) dX7_go_38 rfl rfl ?_
  refine go_aload_n (q := 0) dX7_go_39 rfl rfl ?_
  refine go_geti fg_X7_189 dX7_go_40 (mM (by decide) (by decide) rfl) ?_
  refine go_puti fp_X7_192 dX7_go_43 (mM (by decide) (by decide) rfl) ?_
  refine nmV (fun V_1 e_V_1 => ?_)
  have h := h V_1 e_V_1
  refine go_aload_n (q := 0) dX7_go_46 rfl rfl ?_
  refine go_geti fg_X7_192 dX7_go_47 (mM (by decide) (by decide) rfl) ?_
  refine go_aload_n (q := 0) dX7_go_50 rfl rfl ?_
  refine go_geti fg_X7_195 dX7_go_51 (mM (by decide) (by decide) rfl) ?_
  refine go_icmp_ne (tgt := 61) dX7_go_54 (by decide) (fun c_2 => ?_) (fun c_2 => ?_)
  · have h := h.1 c_2
    refine go_iconst (v := 0) dX7_go_61 (by decide) ?_
    exact okX7_go_62   0  V_1 hk0 hk93 hk170 h
  · have h := h.2 c_2
    refine go_iconst (v := 1) dX7_go_57 (by decide) ?_
    refine go_goto (tgt := 62) dX7_go_58 (by decide) ?_
    exact okX7_go_62   1  V_1 hk0 hk93 hk170 h
def wpX7_go_0 (C : CT) (I0 : Mem → Prop) (I93 : Int32 → Mem → Prop) (I170 : Int32 → Mem → Prop)   (V : Mem) (Q : Option AV → Mem → Prop) : Prop :=
  (((V 24 0 6) ≤ (V 24 0 7) → wpX7_go_38 C I0 I93 I170   V Q) ∧ (¬ (V 24 0 6) ≤ (V 24 0 7) → (∃ j_1 : Nat, (V 24 0 7) = nI j_1 ∧ j_1 < 96 ∧ ((¬ (V 29 0 j_1) = 32 → wpX7_go_38 C I0 I93 I170   V Q) ∧ ((V 29 0 j_1) = 32 → (∀ V_2 : Mem, V_2 = mu V 24 0 7 ((V 24 0 7) + 1) → I0  V_2))))))
set_option maxRecDepth 10000 in
theorem okX7_go_0 {d : Nat} {P : Option AV → Mem → Prop} {I0 : Mem → Prop} {I93 : Int32 → Mem → Prop} {I170 : Int32 → Mem → Prop}     (V : Mem) (hk0 : ∀ (V : Mem), I0  V → Gq (Kp (d + 1) mX7_go UM P) UM cX7_go 2 RX7 0 [(0, aR 24 0)] [] V) (hk93 : ∀ (x1 : Int32), ∀ (V : Mem), I93 x1 V → Gq (Kp (d + 1) mX7_go UM P) UM cX7_go 2 RX7 93 [(0, aR 24 0), (1, aI x1)] [] V) (hk170 : ∀ (x1 : Int32), ∀ (V : Mem), I170 x1 V → Gq (Kp (d + 1) mX7_go UM P) UM cX7_go 2 RX7 170 [(0, aR 24 0), (1, aI x1)] [] V) (h : wpX7_go_0 (Cl UM d) I0 I93 I170   V P) : Gq (Kp (d + 1) mX7_go UM P) UM cX7_go 2 RX7 0 [(0, aR 24 0)] [] V := by
  unfold wpX7_go_0 at h
  refine go_aload_n (q := 0) dX7_go_0 rfl rfl ?_
  refine go_geti fg_X7_189 dX7_go_1 (mM (by decide) (by decide) rfl) ?_
  refine go_aload_n (q := 0) dX7_go_4 rfl rfl ?_
  refine go_geti fg_X7_185 dX7_go_5 (mM (by decide) (by decide) rfl) ?_
  refine go_icmp_ge (tgt := 38) dX7_go_8 (by decide) (fun c_4 => ?_) (fun c_4 => ?_)
  · have h := h.1 c_4
    exact okX7_go_38     V hk0 hk93 hk170 h
  · have h := h.2 c_4
    refine go_aload_n (q := 0) dX7_go_11 rfl rfl ?_
    refine go_getr fg_X7_22 dX7_go_12 (mM (by decide) (by decide) rfl) ?_
    refine go_aload_n (q := 0) dX7_go_15 rfl rfl ?_
    refine go_geti fg_X7_189 dX7_go_16 (mM (by decide) (by decide) rfl) ?_
    obtain ⟨j_1, e_j_1, l_j_1, h⟩ := h
    refine go_iald (r := 29) (n := 96) (j := j_1) rfl (by decide) dX7_go_19 (mM (by decide) (by decide) rfl) e_j_1 l_j_1 ?_
    refine go_bipush (v := 32) dX7_go_20 (by decide) ?_
    refine go_icmp_ne (tgt := 38) dX7_go_22 (by decide) (fun c_3 => ?_) (fun c_3 => ?_)
    · have h := h.1 c_3
      exact okX7_go_38     V hk0 hk93 hk170 h
    · have h := h.2 c_3
      refine go_aload_n (q := 0) dX7_go_25 rfl rfl ?_
      refine go_dup dX7_go_26 rfl ?_
      refine go_geti fg_X7_189 dX7_go_27 (mM (by decide) (by decide) rfl) ?_
      refine go_iconst (v := 1) dX7_go_30 (by decide) ?_
      refine go_iadd dX7_go_31 ?_
      refine go_puti fp_X7_189 dX7_go_32 (mM (by decide) (by decide) rfl) ?_
      refine nmV (fun V_2 e_V_2 => ?_)
      have h := h V_2 e_V_2
      refine go_goto (tgt := 0) dX7_go_35 (by decide) ?_
      exact hk0   V_2 h
theorem clX7_go {d : Nat} {P : Option AV → Mem → Prop} {I0 : Mem → Prop} {I93 : Int32 → Mem → Prop} {I170 : Int32 → Mem → Prop}    (V : Mem) (hk0 : ∀ (V : Mem), I0  V → Gq (Kp (d + 1) mX7_go UM P) UM cX7_go 2 RX7 0 [(0, aR 24 0)] [] V) (hk93 : ∀ (x1 : Int32), ∀ (V : Mem), I93 x1 V → Gq (Kp (d + 1) mX7_go UM P) UM cX7_go 2 RX7 93 [(0, aR 24 0), (1, aI x1)] [] V) (hk170 : ∀ (x1 : Int32), ∀ (V : Mem), I170 x1 V → Gq (Kp (d + 1) mX7_go UM P) UM cX7_go 2 RX7 170 [(0, aR 24 0), (1, aI x1)] [] V) (h : wpX7_go_0 (Cl UM d) I0 I93 I170   V P) : Cl UM (d + 1) mX7_go [aR 24 0] V P :=
  cl_of [(0, aR 24 0)] (by decide) (fun _ => Nat.le_of_ble_eq_true rfl) (fun _ => rfl) (okX7_go_0    V hk0 hk93 hk170 h)
