theorem dX7_takesKey_0 : decode cX7_takesKey 0 = .ok (.aload_n 0, 1) := by decide +kernel
theorem dX7_takesKey_1 : decode cX7_takesKey 1 = .ok (.getfield 198, 3) := by decide +kernel
theorem dX7_takesKey_4 : decode cX7_takesKey 4 = .ok (.iconst 1, 1) := by decide +kernel
theorem dX7_takesKey_5 : decode cX7_takesKey 5 = .ok (.if_icmp .eq 5, 3) := by decide +kernel
theorem dX7_takesKey_8 : decode cX7_takesKey 8 = .ok (.iconst 0, 1) := by decide +kernel
theorem dX7_takesKey_9 : decode cX7_takesKey 9 = .ok (.ireturn, 1) := by decide +kernel
theorem dX7_takesKey_10 : decode cX7_takesKey 10 = .ok (.iconst 0, 1) := by decide +kernel
theorem dX7_takesKey_11 : decode cX7_takesKey 11 = .ok (.istore_n 1, 1) := by decide +kernel
theorem dX7_takesKey_12 : decode cX7_takesKey 12 = .ok (.iload_n 1, 1) := by decide +kernel
theorem dX7_takesKey_13 : decode cX7_takesKey 13 = .ok (.iconst 3, 1) := by decide +kernel
theorem dX7_takesKey_14 : decode cX7_takesKey 14 = .ok (.if_icmp .ge 113, 3) := by decide +kernel
theorem dX7_takesKey_17 : decode cX7_takesKey 17 = .ok (.aload_n 0, 1) := by decide +kernel
theorem dX7_takesKey_18 : decode cX7_takesKey 18 = .ok (.getfield 29, 3) := by decide +kernel
theorem dX7_takesKey_21 : decode cX7_takesKey 21 = .ok (.iload_n 1, 1) := by decide +kernel
theorem dX7_takesKey_22 : decode cX7_takesKey 22 = .ok (.iconst 1, 1) := by decide +kernel
theorem dX7_takesKey_23 : decode cX7_takesKey 23 = .ok (.iadd, 1) := by decide +kernel
theorem dX7_takesKey_24 : decode cX7_takesKey 24 = .ok (.iaload, 1) := by decide +kernel
theorem dX7_takesKey_25 : decode cX7_takesKey 25 = .ok (.aload_n 0, 1) := by decide +kernel
theorem dX7_takesKey_26 : decode cX7_takesKey 26 = .ok (.getfield 29, 3) := by decide +kernel
theorem dX7_takesKey_29 : decode cX7_takesKey 29 = .ok (.iload_n 1, 1) := by decide +kernel
theorem dX7_takesKey_30 : decode cX7_takesKey 30 = .ok (.iaload, 1) := by decide +kernel
theorem dX7_takesKey_31 : decode cX7_takesKey 31 = .ok (.isub, 1) := by decide +kernel
theorem dX7_takesKey_32 : decode cX7_takesKey 32 = .ok (.istore_n 2, 1) := by decide +kernel
theorem dX7_takesKey_33 : decode cX7_takesKey 33 = .ok (.iload_n 2, 1) := by decide +kernel
theorem dX7_takesKey_34 : decode cX7_takesKey 34 = .ok (.aload_n 0, 1) := by decide +kernel
theorem dX7_takesKey_35 : decode cX7_takesKey 35 = .ok (.getfield 189, 3) := by decide +kernel
theorem dX7_takesKey_38 : decode cX7_takesKey 38 = .ok (.aload_n 0, 1) := by decide +kernel
theorem dX7_takesKey_39 : decode cX7_takesKey 39 = .ok (.getfield 192, 3) := by decide +kernel
theorem dX7_takesKey_42 : decode cX7_takesKey 42 = .ok (.isub, 1) := by decide +kernel
theorem dX7_takesKey_43 : decode cX7_takesKey 43 = .ok (.if_icmp .ne 7, 3) := by decide +kernel
theorem dX7_takesKey_46 : decode cX7_takesKey 46 = .ok (.iconst 1, 1) := by decide +kernel
theorem dX7_takesKey_47 : decode cX7_takesKey 47 = .ok (.goto 4, 3) := by decide +kernel
theorem dX7_takesKey_50 : decode cX7_takesKey 50 = .ok (.iconst 0, 1) := by decide +kernel
theorem dX7_takesKey_51 : decode cX7_takesKey 51 = .ok (.istore_n 3, 1) := by decide +kernel
theorem dX7_takesKey_52 : decode cX7_takesKey 52 = .ok (.iconst 0, 1) := by decide +kernel
theorem dX7_takesKey_53 : decode cX7_takesKey 53 = .ok (.istore 4, 2) := by decide +kernel
theorem dX7_takesKey_55 : decode cX7_takesKey 55 = .ok (.iload 4, 2) := by decide +kernel
theorem dX7_takesKey_57 : decode cX7_takesKey 57 = .ok (.iload_n 2, 1) := by decide +kernel
theorem dX7_takesKey_58 : decode cX7_takesKey 58 = .ok (.if_icmp .ge 48, 3) := by decide +kernel
theorem dX7_takesKey_61 : decode cX7_takesKey 61 = .ok (.iload_n 3, 1) := by decide +kernel
theorem dX7_takesKey_62 : decode cX7_takesKey 62 = .ok (.ifCond .eq 44, 3) := by decide +kernel
theorem dX7_takesKey_65 : decode cX7_takesKey 65 = .ok (.aload_n 0, 1) := by decide +kernel
theorem dX7_takesKey_66 : decode cX7_takesKey 66 = .ok (.getfield 22, 3) := by decide +kernel
theorem dX7_takesKey_69 : decode cX7_takesKey 69 = .ok (.aload_n 0, 1) := by decide +kernel
theorem dX7_takesKey_70 : decode cX7_takesKey 70 = .ok (.getfield 192, 3) := by decide +kernel
theorem dX7_takesKey_73 : decode cX7_takesKey 73 = .ok (.iload 4, 2) := by decide +kernel
theorem dX7_takesKey_75 : decode cX7_takesKey 75 = .ok (.iadd, 1) := by decide +kernel
theorem dX7_takesKey_76 : decode cX7_takesKey 76 = .ok (.iaload, 1) := by decide +kernel
theorem dX7_takesKey_77 : decode cX7_takesKey 77 = .ok (.aload_n 0, 1) := by decide +kernel
theorem dX7_takesKey_78 : decode cX7_takesKey 78 = .ok (.getfield 25, 3) := by decide +kernel
theorem dX7_takesKey_81 : decode cX7_takesKey 81 = .ok (.aload_n 0, 1) := by decide +kernel
theorem dX7_takesKey_82 : decode cX7_takesKey 82 = .ok (.getfield 29, 3) := by decide +kernel
theorem dX7_takesKey_85 : decode cX7_takesKey 85 = .ok (.iload_n 1, 1) := by decide +kernel
theorem dX7_takesKey_86 : decode cX7_takesKey 86 = .ok (.iaload, 1) := by decide +kernel
theorem dX7_takesKey_87 : decode cX7_takesKey 87 = .ok (.iload 4, 2) := by decide +kernel
theorem dX7_takesKey_89 : decode cX7_takesKey 89 = .ok (.iadd, 1) := by decide +kernel
theorem dX7_takesKey_90 : decode cX7_takesKey 90 = .ok (.caload, 1) := by decide +kernel
theorem dX7_takesKey_91 : decode cX7_takesKey 91 = .ok (.if_icmp .ne 7, 3) := by decide +kernel
theorem dX7_takesKey_94 : decode cX7_takesKey 94 = .ok (.iconst 1, 1) := by decide +kernel
theorem dX7_takesKey_95 : decode cX7_takesKey 95 = .ok (.goto 4, 3) := by decide +kernel
theorem dX7_takesKey_98 : decode cX7_takesKey 98 = .ok (.iconst 0, 1) := by decide +kernel
theorem dX7_takesKey_99 : decode cX7_takesKey 99 = .ok (.istore_n 3, 1) := by decide +kernel
theorem dX7_takesKey_100 : decode cX7_takesKey 100 = .ok (.iinc 4 1, 3) := by decide +kernel
theorem dX7_takesKey_103 : decode cX7_takesKey 103 = .ok (.goto (-48), 3) := by decide +kernel
theorem dX7_takesKey_106 : decode cX7_takesKey 106 = .ok (.iload_n 3, 1) := by decide +kernel
theorem dX7_takesKey_107 : decode cX7_takesKey 107 = .ok (.ifCond .eq 14, 3) := by decide +kernel
theorem dX7_takesKey_110 : decode cX7_takesKey 110 = .ok (.aload_n 0, 1) := by decide +kernel
theorem dX7_takesKey_111 : decode cX7_takesKey 111 = .ok (.iload_n 1, 1) := by decide +kernel
theorem dX7_takesKey_112 : decode cX7_takesKey 112 = .ok (.putfield 210, 3) := by decide +kernel
theorem dX7_takesKey_115 : decode cX7_takesKey 115 = .ok (.aload_n 0, 1) := by decide +kernel
theorem dX7_takesKey_116 : decode cX7_takesKey 116 = .ok (.invokevirtual 213, 3) := by decide +kernel
theorem dX7_takesKey_119 : decode cX7_takesKey 119 = .ok (.iconst 1, 1) := by decide +kernel
theorem dX7_takesKey_120 : decode cX7_takesKey 120 = .ok (.ireturn, 1) := by decide +kernel
theorem dX7_takesKey_121 : decode cX7_takesKey 121 = .ok (.iinc 1 1, 3) := by decide +kernel
theorem dX7_takesKey_124 : decode cX7_takesKey 124 = .ok (.goto (-112), 3) := by decide +kernel
theorem dX7_takesKey_127 : decode cX7_takesKey 127 = .ok (.iconst 0, 1) := by decide +kernel
theorem dX7_takesKey_128 : decode cX7_takesKey 128 = .ok (.ireturn, 1) := by decide +kernel
def wpX7_takesKey_106 (C : CT) (I12 : Int32 → Mem → Prop) (I55 : Int32 → Int32 → Int32 → Int32 → Mem → Prop)  (x1 : Int32) (x2 : Int32) (x3 : Int32) (x4 : Int32) (V : Mem) (Q : Option AV → Mem → Prop) : Prop :=
  ((x3 = 0 → I12 (x1 + 1) V) ∧ (¬ x3 = 0 → (∀ V_1 : Mem, V_1 = mu V 24 0 12 x1 → (cV C mX7_go [aR 24 0] V_1 (fun V_2 => Q (some (aI 1)) V_2)))))
set_option maxRecDepth 10000 in
theorem okX7_takesKey_106 {d : Nat} {P : Option AV → Mem → Prop} {I12 : Int32 → Mem → Prop} {I55 : Int32 → Int32 → Int32 → Int32 → Mem → Prop}   (x1 : Int32) (x2 : Int32) (x3 : Int32) (x4 : Int32)  (V : Mem) (hk12 : ∀ (x1 : Int32), ∀ (V : Mem), I12 x1 V → Gq (Kp (d + 1) mX7_takesKey UM P) UM cX7_takesKey 5 RX7 12 [(0, aR 24 0), (1, aI x1)] [] V) (hk55 : ∀ (x1 : Int32) (x2 : Int32) (x3 : Int32) (x4 : Int32), ∀ (V : Mem), I55 x1 x2 x3 x4 V → Gq (Kp (d + 1) mX7_takesKey UM P) UM cX7_takesKey 5 RX7 55 [(0, aR 24 0), (1, aI x1), (2, aI x2), (3, aI x3), (4, aI x4)] [] V) (h : wpX7_takesKey_106 (Cl UM d) I12 I55  x1 x2 x3 x4 V P) : Gq (Kp (d + 1) mX7_takesKey UM P) UM cX7_takesKey 5 RX7 106 [(0, aR 24 0), (1, aI x1), (2, aI x2), (3, aI x3), (4, aI x4)] [] V := by
  unfold wpX7_takesKey_106 at h
  refine go_iload_n (q := 3) dX7_takesKey_106 rfl rfl ?_
  refine go_if_eq (tgt := 121) dX7_takesKey_107 (by decide) (fun c_3 => ?_) (fun c_3 => ?_)
  · have h := h.1 c_3
    refine go_iinc (q := 1) (y := 1) (al1 := [(1, aI (x1 + 1)), (0, aR 24 0), (2, aI x2), (3, aI x3), (4, aI x4)]) dX7_takesKey_121 rfl (by decide) (by decide) rfl ?_
    refine go_goto (tgt := 12) dX7_takesKey_124 (by decide) ?_
    refine go_sub (al1 := [(0, aR 24 0), (1, aI (x1 + 1))]) [1, 0] rfl ?_
    exact hk12 (x1 + 1)  V h
  · have h := h.2 c_3
    refine go_aload_n (q := 0) dX7_takesKey_110 rfl rfl ?_
    refine go_iload_n (q := 1) dX7_takesKey_111 rfl rfl ?_
    refine go_puti fp_X7_210 dX7_takesKey_112 (mM (by decide) (by decide) rfl) ?_
    refine nmV (fun V_1 e_V_1 => ?_)
    have h := h V_1 e_V_1
    refine go_aload_n (q := 0) dX7_takesKey_115 rfl rfl ?_
    refine go_cVV (As := []) (st := []) (r := 24) (i := 0) mv_X7_go dX7_takesKey_116 ml_X7_213 (hr_Kp (Nat.le_refl d)) rfl rfl (mM (by decide) (by decide) rfl) rfl rfl (Nat.le_of_ble_eq_true rfl) h (fun V_2 h => ?_)
    refine go_iconst (v := 1) dX7_takesKey_119 (by decide) ?_
    exact go_bret rfl dX7_takesKey_120 (by decide) h
def wpX7_takesKey_55 (C : CT) (I12 : Int32 → Mem → Prop) (I55 : Int32 → Int32 → Int32 → Int32 → Mem → Prop)  (x1 : Int32) (x2 : Int32) (x3 : Int32) (x4 : Int32) (V : Mem) (Q : Option AV → Mem → Prop) : Prop :=
  ((x2 ≤ x4 → wpX7_takesKey_106 C I12 I55  x1 x2 x3 x4 V Q) ∧ (¬ x2 ≤ x4 → ((x3 = 0 → wpX7_takesKey_106 C I12 I55  x1 x2 x3 x4 V Q) ∧ (¬ x3 = 0 → (∃ j_1 : Nat, ((V 24 0 8) + x4) = nI j_1 ∧ j_1 < 96 ∧ (∃ j_2 : Nat, x1 = nI j_2 ∧ j_2 < 4 ∧ (∃ j_3 : Nat, ((V 31 0 j_2) + x4) = nI j_3 ∧ j_3 < 13 ∧ ((¬ (V 29 0 j_1) = (V 30 0 j_3) → I55 x1 x2 0 (x4 + 1) V) ∧ ((V 29 0 j_1) = (V 30 0 j_3) → I55 x1 x2 1 (x4 + 1) V)))))))))
set_option maxRecDepth 10000 in
theorem okX7_takesKey_55 {d : Nat} {P : Option AV → Mem → Prop} {I12 : Int32 → Mem → Prop} {I55 : Int32 → Int32 → Int32 → Int32 → Mem → Prop}   (x1 : Int32) (x2 : Int32) (x3 : Int32) (x4 : Int32)  (V : Mem) (hk12 : ∀ (x1 : Int32), ∀ (V : Mem), I12 x1 V → Gq (Kp (d + 1) mX7_takesKey UM P) UM cX7_takesKey 5 RX7 12 [(0, aR 24 0), (1, aI x1)] [] V) (hk55 : ∀ (x1 : Int32) (x2 : Int32) (x3 : Int32) (x4 : Int32), ∀ (V : Mem), I55 x1 x2 x3 x4 V → Gq (Kp (d + 1) mX7_takesKey UM P) UM cX7_takesKey 5 RX7 55 [(0, aR 24 0), (1, aI x1), (2, aI x2), (3, aI x3), (4, aI x4)] [] V) (h : wpX7_takesKey_55 (Cl UM d) I12 I55  x1 x2 x3 x4 V P) : Gq (Kp (d + 1) mX7_takesKey UM P) UM cX7_takesKey 5 RX7 55 [(0, aR 24 0), (1, aI x1), (2, aI x2), (3, aI x3), (4, aI x4)] [] V := by
  unfold wpX7_takesKey_55 at h
  refine go_iload (q := 4) dX7_takesKey_55 rfl ?_
  refine go_iload_n (q := 2) dX7_takesKey_57 rfl rfl ?_
  refine go_icmp_ge (tgt := 106) dX7_takesKey_58 (by decide) (fun c_6 => ?_) (fun c_6 => ?_)
  · have h := h.1 c_6
    exact okX7_takesKey_106   x1 x2 x3 x4  V hk12 hk55 h
  · have h := h.2 c_6
    refine go_iload_n (q := 3) dX7_takesKey_61 rfl rfl ?_
    refine go_if_eq (tgt := 106) dX7_takesKey_62 (by decide) (fun c_5 => ?_) (fun c_5 => ?_)
    · have h := h.1 c_5
      exact okX7_takesKey_106   x1 x2 x3 x4  V hk12 hk55 h
    · have h := h.2 c_5
      refine go_aload_n (q := 0) dX7_takesKey_65 rfl rfl ?_
      refine go_getr fg_X7_22 dX7_takesKey_66 (mM (by decide) (by decide) rfl) ?_
      refine go_aload_n (q := 0) dX7_takesKey_69 rfl rfl ?_
      refine go_geti fg_X7_192 dX7_takesKey_70 (mM (by decide) (by decide) rfl) ?_
      refine go_iload (q := 4) dX7_takesKey_73 rfl ?_
      refine go_iadd dX7_takesKey_75 ?_
      obtain ⟨j_1, e_j_1, l_j_1, h⟩ := h
      refine go_iald (r := 29) (n := 96) (j := j_1) rfl (by decide) dX7_takesKey_76 (mM (by decide) (by decide) rfl) e_j_1 l_j_1 ?_
      refine go_aload_n (q := 0) dX7_takesKey_77 rfl rfl ?_
      refine go_getr fg_X7_25 dX7_takesKey_78 (mM (by decide) (by decide) rfl) ?_
      refine go_aload_n (q := 0) dX7_takesKey_81 rfl rfl ?_
      refine go_getr fg_X7_29 dX7_takesKey_82 (mM (by decide) (by decide) rfl) ?_
      refine go_iload_n (q := 1) dX7_takesKey_85 rfl rfl ?_
      obtain ⟨j_2, e_j_2, l_j_2, h⟩ := h
      refine go_iald (r := 31) (n := 4) (j := j_2) rfl (by decide) dX7_takesKey_86 (mM (by decide) (by decide) rfl) e_j_2 l_j_2 ?_
      refine go_iload (q := 4) dX7_takesKey_87 rfl ?_
      refine go_iadd dX7_takesKey_89 ?_
      obtain ⟨j_3, e_j_3, l_j_3, h⟩ := h
      refine go_cald (r := 30) (n := 13) (j := j_3) rfl (by decide) dX7_takesKey_90 (mM (by decide) (by decide) rfl) e_j_3 l_j_3 ?_
      refine go_icmp_ne (tgt := 98) dX7_takesKey_91 (by decide) (fun c_4 => ?_) (fun c_4 => ?_)
      · have h := h.1 c_4
        refine go_iconst (v := 0) dX7_takesKey_98 (by decide) ?_
        refine go_istore_n (al1 := [(3, aI 0), (0, aR 24 0), (1, aI x1), (2, aI x2), (4, aI x4)]) dX7_takesKey_99 rfl (by decide) rfl ?_
        refine go_iinc (q := 4) (y := 1) (al1 := [(4, aI (x4 + 1)), (3, aI 0), (0, aR 24 0), (1, aI x1), (2, aI x2)]) dX7_takesKey_100 rfl (by decide) (by decide) rfl ?_
        refine go_goto (tgt := 55) dX7_takesKey_103 (by decide) ?_
        refine go_sub (al1 := [(0, aR 24 0), (1, aI x1), (2, aI x2), (3, aI 0), (4, aI (x4 + 1))]) [2, 3, 4, 1, 0] rfl ?_
        exact hk55 x1 x2 0 (x4 + 1)  V h
      · have h := h.2 c_4
        refine go_iconst (v := 1) dX7_takesKey_94 (by decide) ?_
        refine go_goto (tgt := 99) dX7_takesKey_95 (by decide) ?_
        refine go_istore_n (al1 := [(3, aI 1), (0, aR 24 0), (1, aI x1), (2, aI x2), (4, aI x4)]) dX7_takesKey_99 rfl (by decide) rfl ?_
        refine go_iinc (q := 4) (y := 1) (al1 := [(4, aI (x4 + 1)), (3, aI 1), (0, aR 24 0), (1, aI x1), (2, aI x2)]) dX7_takesKey_100 rfl (by decide) (by decide) rfl ?_
        refine go_goto (tgt := 55) dX7_takesKey_103 (by decide) ?_
        refine go_sub (al1 := [(0, aR 24 0), (1, aI x1), (2, aI x2), (3, aI 1), (4, aI (x4 + 1))]) [2, 3, 4, 1, 0] rfl ?_
        exact hk55 x1 x2 1 (x4 + 1)  V h
def wpX7_takesKey_12 (C : CT) (I12 : Int32 → Mem → Prop) (I55 : Int32 → Int32 → Int32 → Int32 → Mem → Prop)  (x1 : Int32) (V : Mem) (Q : Option AV → Mem → Prop) : Prop :=
  ((3 ≤ x1 → Q (some (aI 0)) V) ∧ (¬ 3 ≤ x1 → (∃ j_1 : Nat, (x1 + 1) = nI j_1 ∧ j_1 < 4 ∧ (∃ j_2 : Nat, x1 = nI j_2 ∧ j_2 < 4 ∧ (∀ z_3 : Int32, z_3 = ((V 31 0 j_1) - (V 31 0 j_2)) → ((¬ z_3 = ((V 24 0 7) - (V 24 0 8)) → I55 x1 z_3 0 0 V) ∧ (z_3 = ((V 24 0 7) - (V 24 0 8)) → I55 x1 z_3 1 0 V)))))))
set_option maxRecDepth 10000 in
theorem okX7_takesKey_12 {d : Nat} {P : Option AV → Mem → Prop} {I12 : Int32 → Mem → Prop} {I55 : Int32 → Int32 → Int32 → Int32 → Mem → Prop}   (x1 : Int32)  (V : Mem) (hk12 : ∀ (x1 : Int32), ∀ (V : Mem), I12 x1 V → Gq (Kp (d + 1) mX7_takesKey UM P) UM cX7_takesKey 5 RX7 12 [(0, aR 24 0), (1, aI x1)] [] V) (hk55 : ∀ (x1 : Int32) (x2 : Int32) (x3 : Int32) (x4 : Int32), ∀ (V : Mem), I55 x1 x2 x3 x4 V → Gq (Kp (d + 1) mX7_takesKey UM P) UM cX7_takesKey 5 RX7 55 [(0, aR 24 0), (1, aI x1), (2, aI x2), (3, aI x3), (4, aI x4)] [] V) (h : wpX7_takesKey_12 (Cl UM d) I12 I55  x1 V P) : Gq (Kp (d + 1) mX7_takesKey UM P) UM cX7_takesKey 5 RX7 12 [(0, aR 24 0), (1, aI x1)] [] V := by
  unfold wpX7_takesKey_12 at h
  refine go_iload_n (q := 1) dX7_takesKey_12 rfl rfl ?_
  refine go_iconst (v := 3) dX7_takesKey_13 (by decide) ?_
  refine go_icmp_ge (tgt := 127) dX7_takesKey_14 (by decide) (fun c_5 => ?_) (fun c_5 => ?_)
  · have h := h.1 c_5
    refine go_iconst (v := 0) dX7_takesKey_127 (by decide) ?_
    exact go_bret rfl dX7_takesKey_128 (by decide) h
  · have h := h.2 c_5
    refine go_aload_n (q := 0) dX7_takesKey_17 rfl rfl ?_
    refine go_getr fg_X7_29 dX7_takesKey_18 (mM (by decide) (by decide) rfl) ?_
    refine go_iload_n (q := 1) dX7_takesKey_21 rfl rfl ?_
    refine go_iconst (v := 1) dX7_takesKey_22 (by decide) ?_
    refine go_iadd dX7_takesKey_23 ?_
    obtain ⟨j_1, e_j_1, l_j_1, h⟩ := h
    refine go_iald (r := 31) (n := 4) (j := j_1) rfl (by decide) dX7_takesKey_24 (mM (by decide) (by decide) rfl) e_j_1 l_j_1 ?_
    refine go_aload_n (q := 0) dX7_takesKey_25 rfl rfl ?_
    refine go_getr fg_X7_29 dX7_takesKey_26 (mM (by decide) (by decide) rfl) ?_
    refine go_iload_n (q := 1) dX7_takesKey_29 rfl rfl ?_
    obtain ⟨j_2, e_j_2, l_j_2, h⟩ := h
    refine go_iald (r := 31) (n := 4) (j := j_2) rfl (by decide) dX7_takesKey_30 (mM (by decide) (by decide) rfl) e_j_2 l_j_2 ?_
    refine go_isub dX7_takesKey_31 ?_
    refine nmI (fun z_3 e_z_3 => ?_)
    have h := h z_3 e_z_3
    refine go_istore_n (al1 := [(2, aI z_3), (0, aR 24 0), (1, aI x1)]) dX7_takesKey_32 rfl (by decide) rfl ?_
    refine go_iload_n (q := 0) dX7_takesKey_33 rfl rfl ?_
    refine go_aload_n (q := 1) dX7_takesKey_34 rfl rfl ?_
    refine go_geti fg_X7_189 dX7_takesKey_35 (mM (by decide) (by decide) rfl) ?_
    refine go_aload_n (q := 1) dX7_takesKey_38 rfl rfl ?_
    refine go_geti fg_X7_192 dX7_takesKey_39 (mM (by decide) (by decide) rfl) ?_
    refine go_isub dX7_takesKey_42 ?_
    refine go_icmp_ne (tgt := 50) dX7_takesKey_43 (by decide) (fun c_4 => ?_) (fun c_4 => ?_)
    · have h := h.1 c_4
      refine go_iconst (v := 0) dX7_takesKey_50 (by decide) ?_
      refine go_istore_n (al1 := [(3, aI 0), (2, aI z_3), (0, aR 24 0), (1, aI x1)]) dX7_takesKey_51 rfl (by decide) rfl ?_
      refine go_iconst (v := 0) dX7_takesKey_52 (by decide) ?_
      refine go_istore (al1 := [(4, aI 0), (3, aI 0), (2, aI z_3), (0, aR 24 0), (1, aI x1)]) dX7_takesKey_53 (by decide) rfl ?_
      refine go_sub (al1 := [(0, aR 24 0), (1, aI x1), (2, aI z_3), (3, aI 0), (4, aI 0)]) [3, 4, 2, 1, 0] rfl ?_
      exact hk55 x1 z_3 0 0  V h
    · have h := h.2 c_4
      refine go_iconst (v := 1) dX7_takesKey_46 (by decide) ?_
      refine go_goto (tgt := 51) dX7_takesKey_47 (by decide) ?_
      refine go_istore_n (al1 := [(3, aI 1), (2, aI z_3), (0, aR 24 0), (1, aI x1)]) dX7_takesKey_51 rfl (by decide) rfl ?_
      refine go_iconst (v := 0) dX7_takesKey_52 (by decide) ?_
      refine go_istore (al1 := [(4, aI 0), (3, aI 1), (2, aI z_3), (0, aR 24 0), (1, aI x1)]) dX7_takesKey_53 (by decide) rfl ?_
      refine go_sub (al1 := [(0, aR 24 0), (1, aI x1), (2, aI z_3), (3, aI 1), (4, aI 0)]) [3, 4, 2, 1, 0] rfl ?_
      exact hk55 x1 z_3 1 0  V h
def wpX7_takesKey_0 (C : CT) (I12 : Int32 → Mem → Prop) (I55 : Int32 → Int32 → Int32 → Int32 → Mem → Prop)   (V : Mem) (Q : Option AV → Mem → Prop) : Prop :=
  (((V 24 0 9) = 1 → I12 0 V) ∧ (¬ (V 24 0 9) = 1 → Q (some (aI 0)) V))
set_option maxRecDepth 10000 in
theorem okX7_takesKey_0 {d : Nat} {P : Option AV → Mem → Prop} {I12 : Int32 → Mem → Prop} {I55 : Int32 → Int32 → Int32 → Int32 → Mem → Prop}     (V : Mem) (hk12 : ∀ (x1 : Int32), ∀ (V : Mem), I12 x1 V → Gq (Kp (d + 1) mX7_takesKey UM P) UM cX7_takesKey 5 RX7 12 [(0, aR 24 0), (1, aI x1)] [] V) (hk55 : ∀ (x1 : Int32) (x2 : Int32) (x3 : Int32) (x4 : Int32), ∀ (V : Mem), I55 x1 x2 x3 x4 V → Gq (Kp (d + 1) mX7_takesKey UM P) UM cX7_takesKey 5 RX7 55 [(0, aR 24 0), (1, aI x1), (2, aI x2), (3, aI x3), (4, aI x4)] [] V) (h : wpX7_takesKey_0 (Cl UM d) I12 I55   V P) : Gq (Kp (d + 1) mX7_takesKey UM P) UM cX7_takesKey 5 RX7 0 [(0, aR 24 0)] [] V := by
  unfold wpX7_takesKey_0 at h
  refine go_aload_n (q := 0) dX7_takesKey_0 rfl rfl ?_
  refine go_geti fg_X7_198 dX7_takesKey_1 (mM (by decide) (by decide) rfl) ?_
  refine go_iconst (v := 1) dX7_takesKey_4 (by decide) ?_
  refine go_icmp_eq (tgt := 10) dX7_takesKey_5 (by decide) (fun c_1 => ?_) (fun c_1 => ?_)
  · have h := h.1 c_1
    refine go_iconst (v := 0) dX7_takesKey_10 (by decide) ?_
    refine go_istore_n (al1 := [(1, aI 0), (0, aR 24 0)]) dX7_takesKey_11 rfl (by decide) rfl ?_
    refine go_sub (al1 := [(0, aR 24 0), (1, aI 0)]) [1, 0] rfl ?_
    exact hk12 0  V h
  · have h := h.2 c_1
    refine go_iconst (v := 0) dX7_takesKey_8 (by decide) ?_
    exact go_bret rfl dX7_takesKey_9 (by decide) h
theorem clX7_takesKey {d : Nat} {P : Option AV → Mem → Prop} {I12 : Int32 → Mem → Prop} {I55 : Int32 → Int32 → Int32 → Int32 → Mem → Prop}    (V : Mem) (hk12 : ∀ (x1 : Int32), ∀ (V : Mem), I12 x1 V → Gq (Kp (d + 1) mX7_takesKey UM P) UM cX7_takesKey 5 RX7 12 [(0, aR 24 0), (1, aI x1)] [] V) (hk55 : ∀ (x1 : Int32) (x2 : Int32) (x3 : Int32) (x4 : Int32), ∀ (V : Mem), I55 x1 x2 x3 x4 V → Gq (Kp (d + 1) mX7_takesKey UM P) UM cX7_takesKey 5 RX7 55 [(0, aR 24 0), (1, aI x1), (2, aI x2), (3, aI x3), (4, aI x4)] [] V) (h : wpX7_takesKey_0 (Cl UM d) I12 I55   V P) : Cl UM (d + 1) mX7_takesKey [aR 24 0] V P :=
  cl_of [(0, aR 24 0)] (by decide) (fun _ => Nat.le_of_ble_eq_true rfl) (fun _ => rfl) (okX7_takesKey_0    V hk12 hk55 h)
theorem dX7_nameOf_0 : decode cX7_nameOf 0 = .ok (.aload_n 0, 1) := by decide +kernel
theorem dX7_nameOf_1 : decode cX7_nameOf 1 = .ok (.getfield 210, 3) := by decide +kernel
theorem dX7_nameOf_4 : decode cX7_nameOf 4 = .ok (.lookupswitch 82 #[(0, 28), (1, 60)], 28) := by decide +kernel
theorem dX7_nameOf_32 : decode cX7_nameOf 32 = .ok (.iload_n 1, 1) := by decide +kernel
theorem dX7_nameOf_33 : decode cX7_nameOf 33 = .ok (.bipush 119, 2) := by decide +kernel
theorem dX7_nameOf_35 : decode cX7_nameOf 35 = .ok (.if_icmp .ne 7, 3) := by decide +kernel
theorem dX7_nameOf_38 : decode cX7_nameOf 38 = .ok (.iconst 0, 1) := by decide +kernel
theorem dX7_nameOf_39 : decode cX7_nameOf 39 = .ok (.goto 24, 3) := by decide +kernel
theorem dX7_nameOf_42 : decode cX7_nameOf 42 = .ok (.iload_n 1, 1) := by decide +kernel
theorem dX7_nameOf_43 : decode cX7_nameOf 43 = .ok (.bipush 115, 2) := by decide +kernel
theorem dX7_nameOf_45 : decode cX7_nameOf 45 = .ok (.if_icmp .ne 7, 3) := by decide +kernel
theorem dX7_nameOf_48 : decode cX7_nameOf 48 = .ok (.iconst 1, 1) := by decide +kernel
theorem dX7_nameOf_49 : decode cX7_nameOf 49 = .ok (.goto 14, 3) := by decide +kernel
theorem dX7_nameOf_52 : decode cX7_nameOf 52 = .ok (.iload_n 1, 1) := by decide +kernel
theorem dX7_nameOf_53 : decode cX7_nameOf 53 = .ok (.bipush 122, 2) := by decide +kernel
theorem dX7_nameOf_55 : decode cX7_nameOf 55 = .ok (.if_icmp .ne 7, 3) := by decide +kernel
theorem dX7_nameOf_58 : decode cX7_nameOf 58 = .ok (.iconst 2, 1) := by decide +kernel
theorem dX7_nameOf_59 : decode cX7_nameOf 59 = .ok (.goto 4, 3) := by decide +kernel
theorem dX7_nameOf_62 : decode cX7_nameOf 62 = .ok (.iconst (-1), 1) := by decide +kernel
theorem dX7_nameOf_63 : decode cX7_nameOf 63 = .ok (.ireturn, 1) := by decide +kernel
theorem dX7_nameOf_64 : decode cX7_nameOf 64 = .ok (.iload_n 1, 1) := by decide +kernel
theorem dX7_nameOf_65 : decode cX7_nameOf 65 = .ok (.bipush 104, 2) := by decide +kernel
theorem dX7_nameOf_67 : decode cX7_nameOf 67 = .ok (.if_icmp .ne 7, 3) := by decide +kernel
theorem dX7_nameOf_70 : decode cX7_nameOf 70 = .ok (.iconst 0, 1) := by decide +kernel
theorem dX7_nameOf_71 : decode cX7_nameOf 71 = .ok (.goto 14, 3) := by decide +kernel
theorem dX7_nameOf_74 : decode cX7_nameOf 74 = .ok (.iload_n 1, 1) := by decide +kernel
theorem dX7_nameOf_75 : decode cX7_nameOf 75 = .ok (.bipush 119, 2) := by decide +kernel
theorem dX7_nameOf_77 : decode cX7_nameOf 77 = .ok (.if_icmp .ne 7, 3) := by decide +kernel
theorem dX7_nameOf_80 : decode cX7_nameOf 80 = .ok (.iconst 1, 1) := by decide +kernel
theorem dX7_nameOf_81 : decode cX7_nameOf 81 = .ok (.goto 4, 3) := by decide +kernel
theorem dX7_nameOf_84 : decode cX7_nameOf 84 = .ok (.iconst (-1), 1) := by decide +kernel
theorem dX7_nameOf_85 : decode cX7_nameOf 85 = .ok (.ireturn, 1) := by decide +kernel
theorem dX7_nameOf_86 : decode cX7_nameOf 86 = .ok (.iload_n 1, 1) := by decide +kernel
theorem dX7_nameOf_87 : decode cX7_nameOf 87 = .ok (.bipush 119, 2) := by decide +kernel
theorem dX7_nameOf_89 : decode cX7_nameOf 89 = .ok (.if_icmp .ne 7, 3) := by decide +kernel
theorem dX7_nameOf_92 : decode cX7_nameOf 92 = .ok (.iconst 0, 1) := by decide +kernel
theorem dX7_nameOf_93 : decode cX7_nameOf 93 = .ok (.goto 14, 3) := by decide +kernel
theorem dX7_nameOf_96 : decode cX7_nameOf 96 = .ok (.iload_n 1, 1) := by decide +kernel
theorem dX7_nameOf_97 : decode cX7_nameOf 97 = .ok (.bipush 115, 2) := by decide +kernel
theorem dX7_nameOf_99 : decode cX7_nameOf 99 = .ok (.if_icmp .ne 7, 3) := by decide +kernel
theorem dX7_nameOf_102 : decode cX7_nameOf 102 = .ok (.iconst 1, 1) := by decide +kernel
theorem dX7_nameOf_103 : decode cX7_nameOf 103 = .ok (.goto 4, 3) := by decide +kernel
theorem dX7_nameOf_106 : decode cX7_nameOf 106 = .ok (.iconst (-1), 1) := by decide +kernel
theorem dX7_nameOf_107 : decode cX7_nameOf 107 = .ok (.ireturn, 1) := by decide +kernel
def wpX7_nameOf_0 (C : CT)   (x1 : Int32) (V : Mem) (Q : Option AV → Mem → Prop) : Prop :=
  (((V 24 0 12) = 0 → ((¬ x1 = 119 → ((¬ x1 = 115 → ((¬ x1 = 122 → Q (some (aI (-1))) V) ∧ (x1 = 122 → Q (some (aI 2)) V))) ∧ (x1 = 115 → Q (some (aI 1)) V))) ∧ (x1 = 119 → Q (some (aI 0)) V))) ∧ ((V 24 0 12) = 1 → ((¬ x1 = 104 → ((¬ x1 = 119 → Q (some (aI (-1))) V) ∧ (x1 = 119 → Q (some (aI 1)) V))) ∧ (x1 = 104 → Q (some (aI 0)) V))) ∧ (¬ (V 24 0 12) = 0 ∧ ¬ (V 24 0 12) = 1 → ((¬ x1 = 119 → ((¬ x1 = 115 → Q (some (aI (-1))) V) ∧ (x1 = 115 → Q (some (aI 1)) V))) ∧ (x1 = 119 → Q (some (aI 0)) V))))
set_option maxRecDepth 10000 in
theorem okX7_nameOf_0 {d : Nat} {P : Option AV → Mem → Prop}    (x1 : Int32)  (V : Mem)  (h : wpX7_nameOf_0 (Cl UM d)   x1 V P) : Gq (Kp (d + 1) mX7_nameOf UM P) UM cX7_nameOf 2 RX7 0 [(0, aR 24 0), (1, aI x1)] [] V := by
  unfold wpX7_nameOf_0 at h
  refine go_aload_n (q := 0) dX7_nameOf_0 rfl rfl ?_
  refine go_geti fg_X7_210 dX7_nameOf_1 (mM (by decide) (by decide) rfl) ?_
  by_cases c4_0 : (V 24 0 12) = 0
  · have h := h.1 c4_0
    refine go_lookC (z := 0) (off := 28) (tgt := 32) c4_0 dX7_nameOf_4 (by decide) (by decide) (by decide) ?_
    refine go_iload_n (q := 1) dX7_nameOf_32 rfl rfl ?_
    refine go_bipush (v := 119) dX7_nameOf_33 (by decide) ?_
    refine go_icmp_ne (tgt := 42) dX7_nameOf_35 (by decide) (fun c_3 => ?_) (fun c_3 => ?_)
    · have h := h.1 c_3
      refine go_iload_n (q := 1) dX7_nameOf_42 rfl rfl ?_
      refine go_bipush (v := 115) dX7_nameOf_43 (by decide) ?_
      refine go_icmp_ne (tgt := 52) dX7_nameOf_45 (by decide) (fun c_2 => ?_) (fun c_2 => ?_)
      · have h := h.1 c_2
        refine go_iload_n (q := 1) dX7_nameOf_52 rfl rfl ?_
        refine go_bipush (v := 122) dX7_nameOf_53 (by decide) ?_
        refine go_icmp_ne (tgt := 62) dX7_nameOf_55 (by decide) (fun c_1 => ?_) (fun c_1 => ?_)
        · have h := h.1 c_1
          refine go_iconst (v := (-1)) dX7_nameOf_62 (by decide) ?_
          exact go_iret rfl dX7_nameOf_63 h
        · have h := h.2 c_1
          refine go_iconst (v := 2) dX7_nameOf_58 (by decide) ?_
          refine go_goto (tgt := 63) dX7_nameOf_59 (by decide) ?_
          exact go_iret rfl dX7_nameOf_63 h
      · have h := h.2 c_2
        refine go_iconst (v := 1) dX7_nameOf_48 (by decide) ?_
        refine go_goto (tgt := 63) dX7_nameOf_49 (by decide) ?_
        exact go_iret rfl dX7_nameOf_63 h
    · have h := h.2 c_3
      refine go_iconst (v := 0) dX7_nameOf_38 (by decide) ?_
      refine go_goto (tgt := 63) dX7_nameOf_39 (by decide) ?_
      exact go_iret rfl dX7_nameOf_63 h
  by_cases c4_1 : (V 24 0 12) = 1
  · have h := h.2.1 c4_1
    refine go_lookC (z := 1) (off := 60) (tgt := 64) c4_1 dX7_nameOf_4 (by decide) (by decide) (by decide) ?_
    refine go_iload_n (q := 1) dX7_nameOf_64 rfl rfl ?_
    refine go_bipush (v := 104) dX7_nameOf_65 (by decide) ?_
    refine go_icmp_ne (tgt := 74) dX7_nameOf_67 (by decide) (fun c_5 => ?_) (fun c_5 => ?_)
    · have h := h.1 c_5
      refine go_iload_n (q := 1) dX7_nameOf_74 rfl rfl ?_
      refine go_bipush (v := 119) dX7_nameOf_75 (by decide) ?_
      refine go_icmp_ne (tgt := 84) dX7_nameOf_77 (by decide) (fun c_4 => ?_) (fun c_4 => ?_)
      · have h := h.1 c_4
        refine go_iconst (v := (-1)) dX7_nameOf_84 (by decide) ?_
        exact go_iret rfl dX7_nameOf_85 h
      · have h := h.2 c_4
        refine go_iconst (v := 1) dX7_nameOf_80 (by decide) ?_
        refine go_goto (tgt := 85) dX7_nameOf_81 (by decide) ?_
        exact go_iret rfl dX7_nameOf_85 h
    · have h := h.2 c_5
      refine go_iconst (v := 0) dX7_nameOf_70 (by decide) ?_
      refine go_goto (tgt := 85) dX7_nameOf_71 (by decide) ?_
      exact go_iret rfl dX7_nameOf_85 h
  have h := h.2.2 ⟨c4_0, c4_1⟩
  refine go_lookup (off := 82) (tgt := 86) dX7_nameOf_4 (by decide) (by show Op.lookupswitch.offset [(0, 28), (1, 60)] _ _ = _; rw [lv_osw c4_0 (show (0 : Int32).toInt = 0 from rfl), lv_osw c4_1 (show (1 : Int32).toInt = 1 from rfl)]; rfl) (by decide) ?_
  refine go_iload_n (q := 1) dX7_nameOf_86 rfl rfl ?_
  refine go_bipush (v := 119) dX7_nameOf_87 (by decide) ?_
  refine go_icmp_ne (tgt := 96) dX7_nameOf_89 (by decide) (fun c_7 => ?_) (fun c_7 => ?_)
  · have h := h.1 c_7
    refine go_iload_n (q := 1) dX7_nameOf_96 rfl rfl ?_
    refine go_bipush (v := 115) dX7_nameOf_97 (by decide) ?_
    refine go_icmp_ne (tgt := 106) dX7_nameOf_99 (by decide) (fun c_6 => ?_) (fun c_6 => ?_)
    · have h := h.1 c_6
      refine go_iconst (v := (-1)) dX7_nameOf_106 (by decide) ?_
      exact go_iret rfl dX7_nameOf_107 h
    · have h := h.2 c_6
      refine go_iconst (v := 1) dX7_nameOf_102 (by decide) ?_
      refine go_goto (tgt := 107) dX7_nameOf_103 (by decide) ?_
      exact go_iret rfl dX7_nameOf_107 h
  · have h := h.2 c_7
    refine go_iconst (v := 0) dX7_nameOf_92 (by decide) ?_
    refine go_goto (tgt := 107) dX7_nameOf_93 (by decide) ?_
    exact go_iret rfl dX7_nameOf_107 h
theorem clX7_nameOf {d : Nat} {P : Option AV → Mem → Prop}    (x1 : Int32) (V : Mem)  (h : wpX7_nameOf_0 (Cl UM d)   x1 V P) : Cl UM (d + 1) mX7_nameOf [aR 24 0, aI x1] V P :=
  cl_of [(0, aR 24 0), (1, aI x1)] (by decide) (fun _ => Nat.le_of_ble_eq_true rfl) (fun _ => rfl) (okX7_nameOf_0   x1 V  h)
theorem dX7_rank_0 : decode cX7_rank 0 = .ok (.iload_n 0, 1) := by decide +kernel
theorem dX7_rank_1 : decode cX7_rank 1 = .ok (.iconst (-1), 1) := by decide +kernel
theorem dX7_rank_2 : decode cX7_rank 2 = .ok (.if_icmp .ne 7, 3) := by decide +kernel
theorem dX7_rank_5 : decode cX7_rank 5 = .ok (.iconst 1, 1) := by decide +kernel
theorem dX7_rank_6 : decode cX7_rank 6 = .ok (.goto 45, 3) := by decide +kernel
theorem dX7_rank_9 : decode cX7_rank 9 = .ok (.iload_n 0, 1) := by decide +kernel
theorem dX7_rank_10 : decode cX7_rank 10 = .ok (.bipush (-2), 2) := by decide +kernel
theorem dX7_rank_12 : decode cX7_rank 12 = .ok (.if_icmp .ne 7, 3) := by decide +kernel
theorem dX7_rank_15 : decode cX7_rank 15 = .ok (.iconst 2, 1) := by decide +kernel
theorem dX7_rank_16 : decode cX7_rank 16 = .ok (.goto 35, 3) := by decide +kernel
theorem dX7_rank_19 : decode cX7_rank 19 = .ok (.iload_n 0, 1) := by decide +kernel
theorem dX7_rank_20 : decode cX7_rank 20 = .ok (.bipush (-5), 2) := by decide +kernel
theorem dX7_rank_22 : decode cX7_rank 22 = .ok (.if_icmp .lt 7, 3) := by decide +kernel
theorem dX7_rank_25 : decode cX7_rank 25 = .ok (.iconst 3, 1) := by decide +kernel
theorem dX7_rank_26 : decode cX7_rank 26 = .ok (.goto 25, 3) := by decide +kernel
theorem dX7_rank_29 : decode cX7_rank 29 = .ok (.iload_n 0, 1) := by decide +kernel
theorem dX7_rank_30 : decode cX7_rank 30 = .ok (.bipush (-7), 2) := by decide +kernel
theorem dX7_rank_32 : decode cX7_rank 32 = .ok (.if_icmp .lt 7, 3) := by decide +kernel
theorem dX7_rank_35 : decode cX7_rank 35 = .ok (.iconst 4, 1) := by decide +kernel
theorem dX7_rank_36 : decode cX7_rank 36 = .ok (.goto 15, 3) := by decide +kernel
theorem dX7_rank_39 : decode cX7_rank 39 = .ok (.iload_n 0, 1) := by decide +kernel
theorem dX7_rank_40 : decode cX7_rank 40 = .ok (.bipush (-9), 2) := by decide +kernel
theorem dX7_rank_42 : decode cX7_rank 42 = .ok (.if_icmp .lt 7, 3) := by decide +kernel
theorem dX7_rank_45 : decode cX7_rank 45 = .ok (.iconst 5, 1) := by decide +kernel
theorem dX7_rank_46 : decode cX7_rank 46 = .ok (.goto 5, 3) := by decide +kernel
theorem dX7_rank_49 : decode cX7_rank 49 = .ok (.bipush 6, 2) := by decide +kernel
theorem dX7_rank_51 : decode cX7_rank 51 = .ok (.ireturn, 1) := by decide +kernel
def wpX7_rank_0 (C : CT)   (x0 : Int32) (V : Mem) (Q : Option AV → Mem → Prop) : Prop :=
  ((¬ x0 = (-1) → ((¬ x0 = (-2) → ((x0 < (-5) → ((x0 < (-7) → ((x0 < (-9) → Q (some (aI 6)) V) ∧ (¬ x0 < (-9) → Q (some (aI 5)) V))) ∧ (¬ x0 < (-7) → Q (some (aI 4)) V))) ∧ (¬ x0 < (-5) → Q (some (aI 3)) V))) ∧ (x0 = (-2) → Q (some (aI 2)) V))) ∧ (x0 = (-1) → Q (some (aI 1)) V))
set_option maxRecDepth 10000 in
theorem okX7_rank_0 {d : Nat} {P : Option AV → Mem → Prop}    (x0 : Int32)  (V : Mem)  (h : wpX7_rank_0 (Cl UM d)   x0 V P) : Gq (Kp (d + 1) mX7_rank UM P) UM cX7_rank 1 RX7 0 [(0, aI x0)] [] V := by
  unfold wpX7_rank_0 at h
  refine go_iload_n (q := 0) dX7_rank_0 rfl rfl ?_
  refine go_iconst (v := (-1)) dX7_rank_1 (by decide) ?_
  refine go_icmp_ne (tgt := 9) dX7_rank_2 (by decide) (fun c_5 => ?_) (fun c_5 => ?_)
  · have h := h.1 c_5
    refine go_iload_n (q := 0) dX7_rank_9 rfl rfl ?_
    refine go_bipush (v := (-2)) dX7_rank_10 (by decide) ?_
    refine go_icmp_ne (tgt := 19) dX7_rank_12 (by decide) (fun c_4 => ?_) (fun c_4 => ?_)
    · have h := h.1 c_4
      refine go_iload_n (q := 0) dX7_rank_19 rfl rfl ?_
      refine go_bipush (v := (-5)) dX7_rank_20 (by decide) ?_
      refine go_icmp_lt (tgt := 29) dX7_rank_22 (by decide) (fun c_3 => ?_) (fun c_3 => ?_)
      · have h := h.1 c_3
        refine go_iload_n (q := 0) dX7_rank_29 rfl rfl ?_
        refine go_bipush (v := (-7)) dX7_rank_30 (by decide) ?_
        refine go_icmp_lt (tgt := 39) dX7_rank_32 (by decide) (fun c_2 => ?_) (fun c_2 => ?_)
        · have h := h.1 c_2
          refine go_iload_n (q := 0) dX7_rank_39 rfl rfl ?_
          refine go_bipush (v := (-9)) dX7_rank_40 (by decide) ?_
          refine go_icmp_lt (tgt := 49) dX7_rank_42 (by decide) (fun c_1 => ?_) (fun c_1 => ?_)
          · have h := h.1 c_1
            refine go_bipush (v := 6) dX7_rank_49 (by decide) ?_
            exact go_iret rfl dX7_rank_51 h
          · have h := h.2 c_1
            refine go_iconst (v := 5) dX7_rank_45 (by decide) ?_
            refine go_goto (tgt := 51) dX7_rank_46 (by decide) ?_
            exact go_iret rfl dX7_rank_51 h
        · have h := h.2 c_2
          refine go_iconst (v := 4) dX7_rank_35 (by decide) ?_
          refine go_goto (tgt := 51) dX7_rank_36 (by decide) ?_
          exact go_iret rfl dX7_rank_51 h
      · have h := h.2 c_3
        refine go_iconst (v := 3) dX7_rank_25 (by decide) ?_
        refine go_goto (tgt := 51) dX7_rank_26 (by decide) ?_
        exact go_iret rfl dX7_rank_51 h
    · have h := h.2 c_4
      refine go_iconst (v := 2) dX7_rank_15 (by decide) ?_
      refine go_goto (tgt := 51) dX7_rank_16 (by decide) ?_
      exact go_iret rfl dX7_rank_51 h
  · have h := h.2 c_5
    refine go_iconst (v := 1) dX7_rank_5 (by decide) ?_
    refine go_goto (tgt := 51) dX7_rank_6 (by decide) ?_
    exact go_iret rfl dX7_rank_51 h
theorem clX7_rank {d : Nat} {P : Option AV → Mem → Prop}    (x0 : Int32) (V : Mem)  (h : wpX7_rank_0 (Cl UM d)   x0 V P) : Cl UM (d + 1) mX7_rank [aI x0] V P :=
  cl_of [(0, aI x0)] (by decide) (fun _ => Nat.le_of_ble_eq_true rfl) (fun _ => rfl) (okX7_rank_0   x0 V  h)
theorem dX7_settle_0 : decode cX7_settle 0 = .ok (.aload_n 0, 1) := by decide +kernel
theorem dX7_settle_1 : decode cX7_settle 1 = .ok (.getfield 216, 3) := by decide +kernel
theorem dX7_settle_4 : decode cX7_settle 4 = .ok (.ifCond .le 78, 3) := by decide +kernel
theorem dX7_settle_7 : decode cX7_settle 7 = .ok (.aload_n 0, 1) := by decide +kernel
theorem dX7_settle_8 : decode cX7_settle 8 = .ok (.getfield 35, 3) := by decide +kernel
theorem dX7_settle_11 : decode cX7_settle 11 = .ok (.aload_n 0, 1) := by decide +kernel
theorem dX7_settle_12 : decode cX7_settle 12 = .ok (.getfield 216, 3) := by decide +kernel
theorem dX7_settle_15 : decode cX7_settle 15 = .ok (.iconst 1, 1) := by decide +kernel
theorem dX7_settle_16 : decode cX7_settle 16 = .ok (.isub, 1) := by decide +kernel
theorem dX7_settle_17 : decode cX7_settle 17 = .ok (.iaload, 1) := by decide +kernel
theorem dX7_settle_18 : decode cX7_settle 18 = .ok (.bipush (-11), 2) := by decide +kernel
theorem dX7_settle_20 : decode cX7_settle 20 = .ok (.if_icmp .eq 62, 3) := by decide +kernel
theorem dX7_settle_23 : decode cX7_settle 23 = .ok (.aload_n 0, 1) := by decide +kernel
theorem dX7_settle_24 : decode cX7_settle 24 = .ok (.getfield 35, 3) := by decide +kernel
theorem dX7_settle_27 : decode cX7_settle 27 = .ok (.aload_n 0, 1) := by decide +kernel
theorem dX7_settle_28 : decode cX7_settle 28 = .ok (.getfield 216, 3) := by decide +kernel
theorem dX7_settle_31 : decode cX7_settle 31 = .ok (.iconst 1, 1) := by decide +kernel
theorem dX7_settle_32 : decode cX7_settle 32 = .ok (.isub, 1) := by decide +kernel
theorem dX7_settle_33 : decode cX7_settle 33 = .ok (.iaload, 1) := by decide +kernel
theorem dX7_settle_34 : decode cX7_settle 34 = .ok (.invokestatic 219, 3) := by decide +kernel
theorem dX7_settle_37 : decode cX7_settle 37 = .ok (.iload_n 1, 1) := by decide +kernel
theorem dX7_settle_38 : decode cX7_settle 38 = .ok (.if_icmp .lt 44, 3) := by decide +kernel
theorem dX7_settle_41 : decode cX7_settle 41 = .ok (.aload_n 0, 1) := by decide +kernel
theorem dX7_settle_42 : decode cX7_settle 42 = .ok (.dup, 1) := by decide +kernel
theorem dX7_settle_43 : decode cX7_settle 43 = .ok (.getfield 216, 3) := by decide +kernel
theorem dX7_settle_46 : decode cX7_settle 46 = .ok (.iconst 1, 1) := by decide +kernel
theorem dX7_settle_47 : decode cX7_settle 47 = .ok (.isub, 1) := by decide +kernel
theorem dX7_settle_48 : decode cX7_settle 48 = .ok (.putfield 216, 3) := by decide +kernel
theorem dX7_settle_51 : decode cX7_settle 51 = .ok (.aload_n 0, 1) := by decide +kernel
theorem dX7_settle_52 : decode cX7_settle 52 = .ok (.getfield 32, 3) := by decide +kernel
theorem dX7_settle_55 : decode cX7_settle 55 = .ok (.aload_n 0, 1) := by decide +kernel
theorem dX7_settle_56 : decode cX7_settle 56 = .ok (.getfield 222, 3) := by decide +kernel
theorem dX7_settle_59 : decode cX7_settle 59 = .ok (.aload_n 0, 1) := by decide +kernel
theorem dX7_settle_60 : decode cX7_settle 60 = .ok (.getfield 35, 3) := by decide +kernel
theorem dX7_settle_63 : decode cX7_settle 63 = .ok (.aload_n 0, 1) := by decide +kernel
theorem dX7_settle_64 : decode cX7_settle 64 = .ok (.getfield 216, 3) := by decide +kernel
theorem dX7_settle_67 : decode cX7_settle 67 = .ok (.iaload, 1) := by decide +kernel
theorem dX7_settle_68 : decode cX7_settle 68 = .ok (.iastore, 1) := by decide +kernel
theorem dX7_settle_69 : decode cX7_settle 69 = .ok (.aload_n 0, 1) := by decide +kernel
theorem dX7_settle_70 : decode cX7_settle 70 = .ok (.dup, 1) := by decide +kernel
theorem dX7_settle_71 : decode cX7_settle 71 = .ok (.getfield 222, 3) := by decide +kernel
theorem dX7_settle_74 : decode cX7_settle 74 = .ok (.iconst 1, 1) := by decide +kernel
theorem dX7_settle_75 : decode cX7_settle 75 = .ok (.iadd, 1) := by decide +kernel
theorem dX7_settle_76 : decode cX7_settle 76 = .ok (.putfield 222, 3) := by decide +kernel
theorem dX7_settle_79 : decode cX7_settle 79 = .ok (.goto (-79), 3) := by decide +kernel
theorem dX7_settle_82 : decode cX7_settle 82 = .ok (.return_, 1) := by decide +kernel
def wpX7_settle_0 (C : CT) (I0 : Int32 → Mem → Prop)  (x1 : Int32) (V : Mem) (Q : Option AV → Mem → Prop) : Prop :=
  (((V 24 0 19) ≤ 0 → Q none V) ∧ (¬ (V 24 0 19) ≤ 0 → (∃ j_1 : Nat, ((V 24 0 19) - 1) = nI j_1 ∧ j_1 < 96 ∧ (((V 33 0 j_1) = (-11) → Q none V) ∧ (¬ (V 33 0 j_1) = (-11) → (cI C mX7_rank [aI (V 33 0 j_1)] V (fun x_3 V_2 => ((x_3 < x1 → Q none V_2) ∧ (¬ x_3 < x1 → (∀ V_4 : Mem, V_4 = mu V_2 24 0 19 ((V_2 24 0 19) - 1) → (∃ j_5 : Nat, (V_4 24 0 19) = nI j_5 ∧ j_5 < 96 ∧ (∃ j_6 : Nat, (V_4 24 0 16) = nI j_6 ∧ j_6 < 96 ∧ (∀ V_7 : Mem, V_7 = mu V_4 32 0 j_6 (V_4 33 0 j_5) → (∀ V_8 : Mem, V_8 = mu V_7 24 0 16 ((V_7 24 0 16) + 1) → I0 x1 V_8))))))))))))))
set_option maxRecDepth 10000 in
theorem okX7_settle_0 {d : Nat} {P : Option AV → Mem → Prop} {I0 : Int32 → Mem → Prop}   (x1 : Int32)  (V : Mem) (hk0 : ∀ (x1 : Int32), ∀ (V : Mem), I0 x1 V → Gq (Kp (d + 1) mX7_settle UM P) UM cX7_settle 2 RX7 0 [(0, aR 24 0), (1, aI x1)] [] V) (h : wpX7_settle_0 (Cl UM d) I0  x1 V P) : Gq (Kp (d + 1) mX7_settle UM P) UM cX7_settle 2 RX7 0 [(0, aR 24 0), (1, aI x1)] [] V := by
  unfold wpX7_settle_0 at h
  refine go_aload_n (q := 0) dX7_settle_0 rfl rfl ?_
  refine go_geti fg_X7_216 dX7_settle_1 (mM (by decide) (by decide) rfl) ?_
  refine go_if_le (tgt := 82) dX7_settle_4 (by decide) (fun c_11 => ?_) (fun c_11 => ?_)
  · have h := h.1 c_11
    exact go_vret rfl dX7_settle_82 h
  · have h := h.2 c_11
    refine go_aload_n (q := 0) dX7_settle_7 rfl rfl ?_
    refine go_getr fg_X7_35 dX7_settle_8 (mM (by decide) (by decide) rfl) ?_
    refine go_aload_n (q := 0) dX7_settle_11 rfl rfl ?_
    refine go_geti fg_X7_216 dX7_settle_12 (mM (by decide) (by decide) rfl) ?_
    refine go_iconst (v := 1) dX7_settle_15 (by decide) ?_
    refine go_isub dX7_settle_16 ?_
    obtain ⟨j_1, e_j_1, l_j_1, h⟩ := h
    refine go_iald (r := 33) (n := 96) (j := j_1) rfl (by decide) dX7_settle_17 (mM (by decide) (by decide) rfl) e_j_1 l_j_1 ?_
    refine go_bipush (v := (-11)) dX7_settle_18 (by decide) ?_
    refine go_icmp_eq (tgt := 82) dX7_settle_20 (by decide) (fun c_10 => ?_) (fun c_10 => ?_)
    · have h := h.1 c_10
      exact go_vret rfl dX7_settle_82 h
    · have h := h.2 c_10
      refine go_aload_n (q := 0) dX7_settle_23 rfl rfl ?_
      refine go_getr fg_X7_35 dX7_settle_24 (mM (by decide) (by decide) rfl) ?_
      refine go_aload_n (q := 0) dX7_settle_27 rfl rfl ?_
      refine go_geti fg_X7_216 dX7_settle_28 (mM (by decide) (by decide) rfl) ?_
      refine go_iconst (v := 1) dX7_settle_31 (by decide) ?_
      refine go_isub dX7_settle_32 ?_
      refine go_iald (r := 33) (n := 96) (j := j_1) rfl (by decide) dX7_settle_33 (mM (by decide) (by decide) rfl) e_j_1 (by omega) ?_
      refine go_cSI (As := [aI (V 33 0 j_1)]) (st := []) ms_X7_rank dX7_settle_34 ml_X7_219 (hr_Kp (Nat.le_refl d)) rfl rfl (Nat.le_of_ble_eq_true rfl) h (fun x_3 V_2 h => ?_)
      refine go_iload_n (q := 1) dX7_settle_37 rfl rfl ?_
      refine go_icmp_lt (tgt := 82) dX7_settle_38 (by decide) (fun c_9 => ?_) (fun c_9 => ?_)
      · have h := h.1 c_9
        exact go_vret rfl dX7_settle_82 h
      · have h := h.2 c_9
        refine go_aload_n (q := 0) dX7_settle_41 rfl rfl ?_
        refine go_dup dX7_settle_42 rfl ?_
        refine go_geti fg_X7_216 dX7_settle_43 (mM (by decide) (by decide) rfl) ?_
        refine go_iconst (v := 1) dX7_settle_46 (by decide) ?_
        refine go_isub dX7_settle_47 ?_
        refine go_puti fp_X7_216 dX7_settle_48 (mM (by decide) (by decide) rfl) ?_
        refine nmV (fun V_4 e_V_4 => ?_)
        have h := h V_4 e_V_4
        refine go_aload_n (q := 0) dX7_settle_51 rfl rfl ?_
        refine go_getr fg_X7_32 dX7_settle_52 (mM (by decide) (by decide) rfl) ?_
        refine go_aload_n (q := 0) dX7_settle_55 rfl rfl ?_
        refine go_geti fg_X7_222 dX7_settle_56 (mM (by decide) (by decide) rfl) ?_
        refine go_aload_n (q := 0) dX7_settle_59 rfl rfl ?_
        refine go_getr fg_X7_35 dX7_settle_60 (mM (by decide) (by decide) rfl) ?_
        refine go_aload_n (q := 0) dX7_settle_63 rfl rfl ?_
        refine go_geti fg_X7_216 dX7_settle_64 (mM (by decide) (by decide) rfl) ?_
        obtain ⟨j_5, e_j_5, l_j_5, h⟩ := h
        refine go_iald (r := 33) (n := 96) (j := j_5) rfl (by decide) dX7_settle_67 (mM (by decide) (by decide) rfl) e_j_5 l_j_5 ?_
        obtain ⟨j_6, e_j_6, l_j_6, h⟩ := h
        refine go_iast (r := 32) (n := 96) (j := j_6) rfl (by decide) dX7_settle_68 (mM (by decide) (by decide) rfl) e_j_6 l_j_6 ?_
        refine nmV (fun V_7 e_V_7 => ?_)
        have h := h V_7 e_V_7
        refine go_aload_n (q := 0) dX7_settle_69 rfl rfl ?_
        refine go_dup dX7_settle_70 rfl ?_
        refine go_geti fg_X7_222 dX7_settle_71 (mM (by decide) (by decide) rfl) ?_
        refine go_iconst (v := 1) dX7_settle_74 (by decide) ?_
        refine go_iadd dX7_settle_75 ?_
        refine go_puti fp_X7_222 dX7_settle_76 (mM (by decide) (by decide) rfl) ?_
        refine nmV (fun V_8 e_V_8 => ?_)
        have h := h V_8 e_V_8
        refine go_goto (tgt := 0) dX7_settle_79 (by decide) ?_
        exact hk0 x1  V_8 h
theorem clX7_settle {d : Nat} {P : Option AV → Mem → Prop} {I0 : Int32 → Mem → Prop}   (x1 : Int32) (V : Mem) (hk0 : ∀ (x1 : Int32), ∀ (V : Mem), I0 x1 V → Gq (Kp (d + 1) mX7_settle UM P) UM cX7_settle 2 RX7 0 [(0, aR 24 0), (1, aI x1)] [] V) (h : wpX7_settle_0 (Cl UM d) I0  x1 V P) : Cl UM (d + 1) mX7_settle [aR 24 0, aI x1] V P :=
  cl_of [(0, aR 24 0), (1, aI x1)] (by decide) (fun _ => Nat.le_of_ble_eq_true rfl) (fun _ => rfl) (okX7_settle_0   x1 V hk0 h)
theorem dX7_signHere_0 : decode cX7_signHere 0 = .ok (.aload_n 0, 1) := by decide +kernel
theorem dX7_signHere_1 : decode cX7_signHere 1 = .ok (.getfield 198, 3) := by decide +kernel
theorem dX7_signHere_4 : decode cX7_signHere 4 = .ok (.iconst 3, 1) := by decide +kernel
theorem dX7_signHere_5 : decode cX7_signHere 5 = .ok (.if_icmp .eq 5, 3) := by decide +kernel
theorem dX7_signHere_8 : decode cX7_signHere 8 = .ok (.iconst 0, 1) := by decide +kernel
theorem dX7_signHere_9 : decode cX7_signHere 9 = .ok (.ireturn, 1) := by decide +kernel
theorem dX7_signHere_10 : decode cX7_signHere 10 = .ok (.aload_n 0, 1) := by decide +kernel
theorem dX7_signHere_11 : decode cX7_signHere 11 = .ok (.getfield 204, 3) := by decide +kernel
theorem dX7_signHere_14 : decode cX7_signHere 14 = .ok (.lookupswitch 108 #[(38, 84), (42, 102), (43, 96), (45, 99), (47, 105), (60, 87), (61, 90), (62, 93), (124, 82)], 82) := by decide +kernel
theorem dX7_signHere_96 : decode cX7_signHere 96 = .ok (.iconst (-1), 1) := by decide +kernel
theorem dX7_signHere_97 : decode cX7_signHere 97 = .ok (.ireturn, 1) := by decide +kernel
theorem dX7_signHere_98 : decode cX7_signHere 98 = .ok (.bipush (-2), 2) := by decide +kernel
theorem dX7_signHere_100 : decode cX7_signHere 100 = .ok (.ireturn, 1) := by decide +kernel
theorem dX7_signHere_101 : decode cX7_signHere 101 = .ok (.bipush (-3), 2) := by decide +kernel
theorem dX7_signHere_103 : decode cX7_signHere 103 = .ok (.ireturn, 1) := by decide +kernel
theorem dX7_signHere_104 : decode cX7_signHere 104 = .ok (.bipush (-4), 2) := by decide +kernel
theorem dX7_signHere_106 : decode cX7_signHere 106 = .ok (.ireturn, 1) := by decide +kernel
theorem dX7_signHere_107 : decode cX7_signHere 107 = .ok (.bipush (-5), 2) := by decide +kernel
theorem dX7_signHere_109 : decode cX7_signHere 109 = .ok (.ireturn, 1) := by decide +kernel
theorem dX7_signHere_110 : decode cX7_signHere 110 = .ok (.bipush (-6), 2) := by decide +kernel
theorem dX7_signHere_112 : decode cX7_signHere 112 = .ok (.ireturn, 1) := by decide +kernel
theorem dX7_signHere_113 : decode cX7_signHere 113 = .ok (.bipush (-7), 2) := by decide +kernel
theorem dX7_signHere_115 : decode cX7_signHere 115 = .ok (.ireturn, 1) := by decide +kernel
theorem dX7_signHere_116 : decode cX7_signHere 116 = .ok (.bipush (-8), 2) := by decide +kernel
theorem dX7_signHere_118 : decode cX7_signHere 118 = .ok (.ireturn, 1) := by decide +kernel
theorem dX7_signHere_119 : decode cX7_signHere 119 = .ok (.bipush (-9), 2) := by decide +kernel
theorem dX7_signHere_121 : decode cX7_signHere 121 = .ok (.ireturn, 1) := by decide +kernel
theorem dX7_signHere_122 : decode cX7_signHere 122 = .ok (.iconst 0, 1) := by decide +kernel
theorem dX7_signHere_123 : decode cX7_signHere 123 = .ok (.ireturn, 1) := by decide +kernel
def wpX7_signHere_0 (C : CT)    (V : Mem) (Q : Option AV → Mem → Prop) : Prop :=
  (((V 24 0 9) = 3 → (((V 24 0 10) = 38 → Q (some (aI (-2))) V) ∧ ((V 24 0 10) = 42 → Q (some (aI (-8))) V) ∧ ((V 24 0 10) = 43 → Q (some (aI (-6))) V) ∧ ((V 24 0 10) = 45 → Q (some (aI (-7))) V) ∧ ((V 24 0 10) = 47 → Q (some (aI (-9))) V) ∧ ((V 24 0 10) = 60 → Q (some (aI (-3))) V) ∧ ((V 24 0 10) = 61 → Q (some (aI (-4))) V) ∧ ((V 24 0 10) = 62 → Q (some (aI (-5))) V) ∧ ((V 24 0 10) = 124 → Q (some (aI (-1))) V) ∧ (¬ (V 24 0 10) = 38 ∧ ¬ (V 24 0 10) = 42 ∧ ¬ (V 24 0 10) = 43 ∧ ¬ (V 24 0 10) = 45 ∧ ¬ (V 24 0 10) = 47 ∧ ¬ (V 24 0 10) = 60 ∧ ¬ (V 24 0 10) = 61 ∧ ¬ (V 24 0 10) = 62 ∧ ¬ (V 24 0 10) = 124 → Q (some (aI 0)) V))) ∧ (¬ (V 24 0 9) = 3 → Q (some (aI 0)) V))
set_option maxRecDepth 10000 in
theorem okX7_signHere_0 {d : Nat} {P : Option AV → Mem → Prop}      (V : Mem)  (h : wpX7_signHere_0 (Cl UM d)    V P) : Gq (Kp (d + 1) mX7_signHere UM P) UM cX7_signHere 1 RX7 0 [(0, aR 24 0)] [] V := by
  unfold wpX7_signHere_0 at h
  refine go_aload_n (q := 0) dX7_signHere_0 rfl rfl ?_
  refine go_geti fg_X7_198 dX7_signHere_1 (mM (by decide) (by decide) rfl) ?_
  refine go_iconst (v := 3) dX7_signHere_4 (by decide) ?_
  refine go_icmp_eq (tgt := 10) dX7_signHere_5 (by decide) (fun c_1 => ?_) (fun c_1 => ?_)
  · have h := h.1 c_1
    refine go_aload_n (q := 0) dX7_signHere_10 rfl rfl ?_
    refine go_geti fg_X7_204 dX7_signHere_11 (mM (by decide) (by decide) rfl) ?_
    by_cases c14_0 : (V 24 0 10) = 38
    · have h := h.1 c14_0
      refine go_lookC (z := 38) (off := 84) (tgt := 98) c14_0 dX7_signHere_14 (by decide) (by decide) (by decide) ?_
      refine go_bipush (v := (-2)) dX7_signHere_98 (by decide) ?_
      exact go_iret rfl dX7_signHere_100 h
    by_cases c14_1 : (V 24 0 10) = 42
    · have h := h.2.1 c14_1
      refine go_lookC (z := 42) (off := 102) (tgt := 116) c14_1 dX7_signHere_14 (by decide) (by decide) (by decide) ?_
      refine go_bipush (v := (-8)) dX7_signHere_116 (by decide) ?_
      exact go_iret rfl dX7_signHere_118 h
    by_cases c14_2 : (V 24 0 10) = 43
    · have h := h.2.2.1 c14_2
      refine go_lookC (z := 43) (off := 96) (tgt := 110) c14_2 dX7_signHere_14 (by decide) (by decide) (by decide) ?_
      refine go_bipush (v := (-6)) dX7_signHere_110 (by decide) ?_
      exact go_iret rfl dX7_signHere_112 h
    by_cases c14_3 : (V 24 0 10) = 45
    · have h := h.2.2.2.1 c14_3
      refine go_lookC (z := 45) (off := 99) (tgt := 113) c14_3 dX7_signHere_14 (by decide) (by decide) (by decide) ?_
      refine go_bipush (v := (-7)) dX7_signHere_113 (by decide) ?_
      exact go_iret rfl dX7_signHere_115 h
    by_cases c14_4 : (V 24 0 10) = 47
    · have h := h.2.2.2.2.1 c14_4
      refine go_lookC (z := 47) (off := 105) (tgt := 119) c14_4 dX7_signHere_14 (by decide) (by decide) (by decide) ?_
      refine go_bipush (v := (-9)) dX7_signHere_119 (by decide) ?_
      exact go_iret rfl dX7_signHere_121 h
    by_cases c14_5 : (V 24 0 10) = 60
    · have h := h.2.2.2.2.2.1 c14_5
      refine go_lookC (z := 60) (off := 87) (tgt := 101) c14_5 dX7_signHere_14 (by decide) (by decide) (by decide) ?_
      refine go_bipush (v := (-3)) dX7_signHere_101 (by decide) ?_
      exact go_iret rfl dX7_signHere_103 h
    by_cases c14_6 : (V 24 0 10) = 61
    · have h := h.2.2.2.2.2.2.1 c14_6
      refine go_lookC (z := 61) (off := 90) (tgt := 104) c14_6 dX7_signHere_14 (by decide) (by decide) (by decide) ?_
      refine go_bipush (v := (-4)) dX7_signHere_104 (by decide) ?_
      exact go_iret rfl dX7_signHere_106 h
    by_cases c14_7 : (V 24 0 10) = 62
    · have h := h.2.2.2.2.2.2.2.1 c14_7
      refine go_lookC (z := 62) (off := 93) (tgt := 107) c14_7 dX7_signHere_14 (by decide) (by decide) (by decide) ?_
      refine go_bipush (v := (-5)) dX7_signHere_107 (by decide) ?_
      exact go_iret rfl dX7_signHere_109 h
    by_cases c14_8 : (V 24 0 10) = 124
    · have h := h.2.2.2.2.2.2.2.2.1 c14_8
      refine go_lookC (z := 124) (off := 82) (tgt := 96) c14_8 dX7_signHere_14 (by decide) (by decide) (by decide) ?_
      refine go_iconst (v := (-1)) dX7_signHere_96 (by decide) ?_
      exact go_iret rfl dX7_signHere_97 h
    have h := h.2.2.2.2.2.2.2.2.2 ⟨c14_0, c14_1, c14_2, c14_3, c14_4, c14_5, c14_6, c14_7, c14_8⟩
    refine go_lookup (off := 108) (tgt := 122) dX7_signHere_14 (by decide) (by show Op.lookupswitch.offset [(38, 84), (42, 102), (43, 96), (45, 99), (47, 105), (60, 87), (61, 90), (62, 93), (124, 82)] _ _ = _; rw [lv_osw c14_0 (show (38 : Int32).toInt = 38 from rfl), lv_osw c14_1 (show (42 : Int32).toInt = 42 from rfl), lv_osw c14_2 (show (43 : Int32).toInt = 43 from rfl), lv_osw c14_3 (show (45 : Int32).toInt = 45 from rfl), lv_osw c14_4 (show (47 : Int32).toInt = 47 from rfl), lv_osw c14_5 (show (60 : Int32).toInt = 60 from rfl), lv_osw c14_6 (show (61 : Int32).toInt = 61 from rfl), lv_osw c14_7 (show (62 : Int32).toInt = 62 from rfl), lv_osw c14_8 (show (124 : Int32).toInt = 124 from rfl)]; rfl) (by decide) ?_
    refine go_iconst (v := 0) dX7_signHere_122 (by decide) ?_
    exact go_iret rfl dX7_signHere_123 h
  · have h := h.2 c_1
    refine go_iconst (v := 0) dX7_signHere_8 (by decide) ?_
    exact go_iret rfl dX7_signHere_9 h
theorem clX7_signHere {d : Nat} {P : Option AV → Mem → Prop}     (V : Mem)  (h : wpX7_signHere_0 (Cl UM d)    V P) : Cl UM (d + 1) mX7_signHere [aR 24 0] V P :=
  cl_of [(0, aR 24 0)] (by decide) (fun _ => Nat.le_of_ble_eq_true rfl) (fun _ => rfl) (okX7_signHere_0    V  h)
theorem dX7_takesPart_0 : decode cX7_takesPart 0 = .ok (.aload_n 0, 1) := by decide +kernel
theorem dX7_takesPart_1 : decode cX7_takesPart 1 = .ok (.getfield 198, 3) := by decide +kernel
theorem dX7_takesPart_4 : decode cX7_takesPart 4 = .ok (.iconst 1, 1) := by decide +kernel
theorem dX7_takesPart_5 : decode cX7_takesPart 5 = .ok (.if_icmp .ne 31, 3) := by decide +kernel
theorem dX7_takesPart_8 : decode cX7_takesPart 8 = .ok (.aload_n 0, 1) := by decide +kernel
theorem dX7_takesPart_9 : decode cX7_takesPart 9 = .ok (.getfield 189, 3) := by decide +kernel
theorem dX7_takesPart_12 : decode cX7_takesPart 12 = .ok (.aload_n 0, 1) := by decide +kernel
theorem dX7_takesPart_13 : decode cX7_takesPart 13 = .ok (.getfield 192, 3) := by decide +kernel
theorem dX7_takesPart_16 : decode cX7_takesPart 16 = .ok (.isub, 1) := by decide +kernel
theorem dX7_takesPart_17 : decode cX7_takesPart 17 = .ok (.iconst 1, 1) := by decide +kernel
theorem dX7_takesPart_18 : decode cX7_takesPart 18 = .ok (.if_icmp .ne 18, 3) := by decide +kernel
theorem dX7_takesPart_21 : decode cX7_takesPart 21 = .ok (.aload_n 0, 1) := by decide +kernel
theorem dX7_takesPart_22 : decode cX7_takesPart 22 = .ok (.aload_n 0, 1) := by decide +kernel
theorem dX7_takesPart_23 : decode cX7_takesPart 23 = .ok (.getfield 204, 3) := by decide +kernel
theorem dX7_takesPart_26 : decode cX7_takesPart 26 = .ok (.invokevirtual 225, 3) := by decide +kernel
theorem dX7_takesPart_29 : decode cX7_takesPart 29 = .ok (.ifCond .lt 7, 3) := by decide +kernel
theorem dX7_takesPart_32 : decode cX7_takesPart 32 = .ok (.iconst 1, 1) := by decide +kernel
theorem dX7_takesPart_33 : decode cX7_takesPart 33 = .ok (.goto 4, 3) := by decide +kernel
theorem dX7_takesPart_36 : decode cX7_takesPart 36 = .ok (.iconst 0, 1) := by decide +kernel
theorem dX7_takesPart_37 : decode cX7_takesPart 37 = .ok (.istore_n 1, 1) := by decide +kernel
theorem dX7_takesPart_38 : decode cX7_takesPart 38 = .ok (.aload_n 0, 1) := by decide +kernel
theorem dX7_takesPart_39 : decode cX7_takesPart 39 = .ok (.getfield 198, 3) := by decide +kernel
theorem dX7_takesPart_42 : decode cX7_takesPart 42 = .ok (.iconst 2, 1) := by decide +kernel
theorem dX7_takesPart_43 : decode cX7_takesPart 43 = .ok (.if_icmp .eq 9, 3) := by decide +kernel
theorem dX7_takesPart_46 : decode cX7_takesPart 46 = .ok (.iload_n 1, 1) := by decide +kernel
theorem dX7_takesPart_47 : decode cX7_takesPart 47 = .ok (.ifCond .ne 5, 3) := by decide +kernel
theorem dX7_takesPart_50 : decode cX7_takesPart 50 = .ok (.iconst 0, 1) := by decide +kernel
theorem dX7_takesPart_51 : decode cX7_takesPart 51 = .ok (.ireturn, 1) := by decide +kernel
theorem dX7_takesPart_52 : decode cX7_takesPart 52 = .ok (.aload_n 0, 1) := by decide +kernel
theorem dX7_takesPart_53 : decode cX7_takesPart 53 = .ok (.getfield 32, 3) := by decide +kernel
theorem dX7_takesPart_56 : decode cX7_takesPart 56 = .ok (.aload_n 0, 1) := by decide +kernel
theorem dX7_takesPart_57 : decode cX7_takesPart 57 = .ok (.getfield 222, 3) := by decide +kernel
theorem dX7_takesPart_60 : decode cX7_takesPart 60 = .ok (.aload_n 0, 1) := by decide +kernel
theorem dX7_takesPart_61 : decode cX7_takesPart 61 = .ok (.getfield 198, 3) := by decide +kernel
theorem dX7_takesPart_64 : decode cX7_takesPart 64 = .ok (.iconst 2, 1) := by decide +kernel
theorem dX7_takesPart_65 : decode cX7_takesPart 65 = .ok (.if_icmp .ne 10, 3) := by decide +kernel
theorem dX7_takesPart_68 : decode cX7_takesPart 68 = .ok (.aload_n 0, 1) := by decide +kernel
theorem dX7_takesPart_69 : decode cX7_takesPart 69 = .ok (.getfield 204, 3) := by decide +kernel
theorem dX7_takesPart_72 : decode cX7_takesPart 72 = .ok (.goto 15, 3) := by decide +kernel
theorem dX7_takesPart_75 : decode cX7_takesPart 75 = .ok (.sipush 10000, 3) := by decide +kernel
theorem dX7_takesPart_78 : decode cX7_takesPart 78 = .ok (.aload_n 0, 1) := by decide +kernel
theorem dX7_takesPart_79 : decode cX7_takesPart 79 = .ok (.aload_n 0, 1) := by decide +kernel
theorem dX7_takesPart_80 : decode cX7_takesPart 80 = .ok (.getfield 204, 3) := by decide +kernel
theorem dX7_takesPart_83 : decode cX7_takesPart 83 = .ok (.invokevirtual 225, 3) := by decide +kernel
theorem dX7_takesPart_86 : decode cX7_takesPart 86 = .ok (.iadd, 1) := by decide +kernel
theorem dX7_takesPart_87 : decode cX7_takesPart 87 = .ok (.iastore, 1) := by decide +kernel
theorem dX7_takesPart_88 : decode cX7_takesPart 88 = .ok (.aload_n 0, 1) := by decide +kernel
theorem dX7_takesPart_89 : decode cX7_takesPart 89 = .ok (.dup, 1) := by decide +kernel
theorem dX7_takesPart_90 : decode cX7_takesPart 90 = .ok (.getfield 222, 3) := by decide +kernel
theorem dX7_takesPart_93 : decode cX7_takesPart 93 = .ok (.iconst 1, 1) := by decide +kernel
theorem dX7_takesPart_94 : decode cX7_takesPart 94 = .ok (.iadd, 1) := by decide +kernel
theorem dX7_takesPart_95 : decode cX7_takesPart 95 = .ok (.putfield 222, 3) := by decide +kernel
theorem dX7_takesPart_98 : decode cX7_takesPart 98 = .ok (.aload_n 0, 1) := by decide +kernel
theorem dX7_takesPart_99 : decode cX7_takesPart 99 = .ok (.dup, 1) := by decide +kernel
theorem dX7_takesPart_100 : decode cX7_takesPart 100 = .ok (.getfield 228, 3) := by decide +kernel
theorem dX7_takesPart_103 : decode cX7_takesPart 103 = .ok (.iconst 1, 1) := by decide +kernel
theorem dX7_takesPart_104 : decode cX7_takesPart 104 = .ok (.iadd, 1) := by decide +kernel
theorem dX7_takesPart_105 : decode cX7_takesPart 105 = .ok (.putfield 228, 3) := by decide +kernel
theorem dX7_takesPart_108 : decode cX7_takesPart 108 = .ok (.aload_n 0, 1) := by decide +kernel
theorem dX7_takesPart_109 : decode cX7_takesPart 109 = .ok (.bipush 6, 2) := by decide +kernel
theorem dX7_takesPart_111 : decode cX7_takesPart 111 = .ok (.invokevirtual 231, 3) := by decide +kernel
theorem dX7_takesPart_114 : decode cX7_takesPart 114 = .ok (.aload_n 0, 1) := by decide +kernel
theorem dX7_takesPart_115 : decode cX7_takesPart 115 = .ok (.invokevirtual 213, 3) := by decide +kernel
theorem dX7_takesPart_118 : decode cX7_takesPart 118 = .ok (.iconst 1, 1) := by decide +kernel
theorem dX7_takesPart_119 : decode cX7_takesPart 119 = .ok (.ireturn, 1) := by decide +kernel
def wpX7_takesPart_87 (C : CT)   (x1 : Int32) (s0 : Int32) (s1 : Int32) (V : Mem) (Q : Option AV → Mem → Prop) : Prop :=
  (∃ j_1 : Nat, s1 = nI j_1 ∧ j_1 < 96 ∧ (∀ V_2 : Mem, V_2 = mu V 32 0 j_1 s0 → (∀ V_3 : Mem, V_3 = mu V_2 24 0 16 ((V_2 24 0 16) + 1) → (∀ V_4 : Mem, V_4 = mu V_3 24 0 17 ((V_3 24 0 17) + 1) → (cV C mX7_settle [aR 24 0, aI 6] V_4 (fun V_5 => (cV C mX7_go [aR 24 0] V_5 (fun V_6 => Q (some (aI 1)) V_6))))))))
set_option maxRecDepth 10000 in
theorem okX7_takesPart_87 {d : Nat} {P : Option AV → Mem → Prop}    (x1 : Int32) (s0 : Int32) (s1 : Int32)  (V : Mem)  (h : wpX7_takesPart_87 (Cl UM d)   x1 s0 s1 V P) : Gq (Kp (d + 1) mX7_takesPart UM P) UM cX7_takesPart 2 RX7 87 [(0, aR 24 0), (1, aI x1)] [aI s0, aI s1, aR 32 0] V := by
  unfold wpX7_takesPart_87 at h
  obtain ⟨j_1, e_j_1, l_j_1, h⟩ := h
  refine go_iast (r := 32) (n := 96) (j := j_1) rfl (by decide) dX7_takesPart_87 (mM (by decide) (by decide) rfl) e_j_1 l_j_1 ?_
  refine nmV (fun V_2 e_V_2 => ?_)
  have h := h V_2 e_V_2
  refine go_aload_n (q := 0) dX7_takesPart_88 rfl rfl ?_
  refine go_dup dX7_takesPart_89 rfl ?_
  refine go_geti fg_X7_222 dX7_takesPart_90 (mM (by decide) (by decide) rfl) ?_
  refine go_iconst (v := 1) dX7_takesPart_93 (by decide) ?_
  refine go_iadd dX7_takesPart_94 ?_
  refine go_puti fp_X7_222 dX7_takesPart_95 (mM (by decide) (by decide) rfl) ?_
  refine nmV (fun V_3 e_V_3 => ?_)
  have h := h V_3 e_V_3
  refine go_aload_n (q := 0) dX7_takesPart_98 rfl rfl ?_
  refine go_dup dX7_takesPart_99 rfl ?_
  refine go_geti fg_X7_228 dX7_takesPart_100 (mM (by decide) (by decide) rfl) ?_
  refine go_iconst (v := 1) dX7_takesPart_103 (by decide) ?_
  refine go_iadd dX7_takesPart_104 ?_
  refine go_puti fp_X7_228 dX7_takesPart_105 (mM (by decide) (by decide) rfl) ?_
  refine nmV (fun V_4 e_V_4 => ?_)
  have h := h V_4 e_V_4
  refine go_aload_n (q := 0) dX7_takesPart_108 rfl rfl ?_
  refine go_bipush (v := 6) dX7_takesPart_109 (by decide) ?_
  refine go_cVV (As := [aI 6]) (st := []) (r := 24) (i := 0) mv_X7_settle dX7_takesPart_111 ml_X7_231 (hr_Kp (Nat.le_refl d)) rfl rfl (mM (by decide) (by decide) rfl) rfl rfl (Nat.le_of_ble_eq_true rfl) h (fun V_5 h => ?_)
  refine go_aload_n (q := 0) dX7_takesPart_114 rfl rfl ?_
  refine go_cVV (As := []) (st := []) (r := 24) (i := 0) mv_X7_go dX7_takesPart_115 ml_X7_213 (hr_Kp (Nat.le_refl d)) rfl rfl (mM (by decide) (by decide) rfl) rfl rfl (Nat.le_of_ble_eq_true rfl) h (fun V_6 h => ?_)
  refine go_iconst (v := 1) dX7_takesPart_118 (by decide) ?_
  exact go_bret rfl dX7_takesPart_119 (by decide) h
def wpX7_takesPart_52 (C : CT)   (x1 : Int32) (V : Mem) (Q : Option AV → Mem → Prop) : Prop :=
  ((¬ (V 24 0 9) = 2 → (cI C mX7_nameOf [aR 24 0, aI (V 24 0 10)] V (fun x_2 V_1 => wpX7_takesPart_87 C   x1 (10000 + x_2) (V 24 0 16) V_1 Q))) ∧ ((V 24 0 9) = 2 → wpX7_takesPart_87 C   x1 (V 24 0 10) (V 24 0 16) V Q))
set_option maxRecDepth 10000 in
theorem okX7_takesPart_52 {d : Nat} {P : Option AV → Mem → Prop}    (x1 : Int32)  (V : Mem)  (h : wpX7_takesPart_52 (Cl UM d)   x1 V P) : Gq (Kp (d + 1) mX7_takesPart UM P) UM cX7_takesPart 2 RX7 52 [(0, aR 24 0), (1, aI x1)] [] V := by
  unfold wpX7_takesPart_52 at h
  refine go_aload_n (q := 0) dX7_takesPart_52 rfl rfl ?_
  refine go_getr fg_X7_32 dX7_takesPart_53 (mM (by decide) (by decide) rfl) ?_
  refine go_aload_n (q := 0) dX7_takesPart_56 rfl rfl ?_
  refine go_geti fg_X7_222 dX7_takesPart_57 (mM (by decide) (by decide) rfl) ?_
  refine go_aload_n (q := 0) dX7_takesPart_60 rfl rfl ?_
  refine go_geti fg_X7_198 dX7_takesPart_61 (mM (by decide) (by decide) rfl) ?_
  refine go_iconst (v := 2) dX7_takesPart_64 (by decide) ?_
  refine go_icmp_ne (tgt := 75) dX7_takesPart_65 (by decide) (fun c_3 => ?_) (fun c_3 => ?_)
  · have h := h.1 c_3
    refine go_sipush (v := 10000) dX7_takesPart_75 (by decide) ?_
    refine go_aload_n (q := 0) dX7_takesPart_78 rfl rfl ?_
    refine go_aload_n (q := 0) dX7_takesPart_79 rfl rfl ?_
    refine go_geti fg_X7_204 dX7_takesPart_80 (mM (by decide) (by decide) rfl) ?_
    refine go_cVI (As := [aI (V 24 0 10)]) (st := [aI 10000, aI (V 24 0 16), aR 32 0]) (r := 24) (i := 0) mv_X7_nameOf dX7_takesPart_83 ml_X7_225 (hr_Kp (Nat.le_refl d)) rfl rfl (mM (by decide) (by decide) rfl) rfl rfl (Nat.le_of_ble_eq_true rfl) h (fun x_2 V_1 h => ?_)
    refine go_iadd dX7_takesPart_86 ?_
    exact okX7_takesPart_87   x1 (10000 + x_2) (V 24 0 16)  V_1  h
  · have h := h.2 c_3
    refine go_aload_n (q := 0) dX7_takesPart_68 rfl rfl ?_
    refine go_geti fg_X7_204 dX7_takesPart_69 (mM (by decide) (by decide) rfl) ?_
    refine go_goto (tgt := 87) dX7_takesPart_72 (by decide) ?_
    exact okX7_takesPart_87   x1 (V 24 0 10) (V 24 0 16)  V  h
def wpX7_takesPart_37 (C : CT)   (s0 : Int32) (V : Mem) (Q : Option AV → Mem → Prop) : Prop :=
  (((V 24 0 9) = 2 → wpX7_takesPart_52 C   s0 V Q) ∧ (¬ (V 24 0 9) = 2 → ((¬ s0 = 0 → wpX7_takesPart_52 C   s0 V Q) ∧ (s0 = 0 → Q (some (aI 0)) V))))
set_option maxRecDepth 10000 in
theorem okX7_takesPart_37 {d : Nat} {P : Option AV → Mem → Prop}    (s0 : Int32)  (V : Mem)  (h : wpX7_takesPart_37 (Cl UM d)   s0 V P) : Gq (Kp (d + 1) mX7_takesPart UM P) UM cX7_takesPart 2 RX7 37 [(0, aR 24 0)] [aI s0] V := by
  unfold wpX7_takesPart_37 at h
  refine go_istore_n (al1 := [(1, aI s0), (0, aR 24 0)]) dX7_takesPart_37 rfl (by decide) rfl ?_
  refine go_aload_n (q := 1) dX7_takesPart_38 rfl rfl ?_
  refine go_geti fg_X7_198 dX7_takesPart_39 (mM (by decide) (by decide) rfl) ?_
  refine go_iconst (v := 2) dX7_takesPart_42 (by decide) ?_
  refine go_icmp_eq (tgt := 52) dX7_takesPart_43 (by decide) (fun c_2 => ?_) (fun c_2 => ?_)
  · have h := h.1 c_2
    refine go_sub (al1 := [(0, aR 24 0), (1, aI s0)]) [1, 0] rfl ?_
    exact okX7_takesPart_52   s0  V  h
  · have h := h.2 c_2
    refine go_iload_n (q := 0) dX7_takesPart_46 rfl rfl ?_
    refine go_if_ne (tgt := 52) dX7_takesPart_47 (by decide) (fun c_1 => ?_) (fun c_1 => ?_)
    · have h := h.1 c_1
      refine go_sub (al1 := [(0, aR 24 0), (1, aI s0)]) [1, 0] rfl ?_
      exact okX7_takesPart_52   s0  V  h
    · have h := h.2 c_1
      refine go_iconst (v := 0) dX7_takesPart_50 (by decide) ?_
      exact go_bret rfl dX7_takesPart_51 (by decide) h
def wpX7_takesPart_36 (C : CT)    (V : Mem) (Q : Option AV → Mem → Prop) : Prop :=
  wpX7_takesPart_37 C   0 V Q
set_option maxRecDepth 10000 in
theorem okX7_takesPart_36 {d : Nat} {P : Option AV → Mem → Prop}      (V : Mem)  (h : wpX7_takesPart_36 (Cl UM d)    V P) : Gq (Kp (d + 1) mX7_takesPart UM P) UM cX7_takesPart 2 RX7 36 [(0, aR 24 0)] [] V := by
  unfold wpX7_takesPart_36 at h
  refine go_iconst (v := 0) dX7_takesPart_36 (by decide) ?_
  exact okX7_takesPart_37   0  V  h
def wpX7_takesPart_0 (C : CT)    (V : Mem) (Q : Option AV → Mem → Prop) : Prop :=
  ((¬ (V 24 0 9) = 1 → wpX7_takesPart_36 C    V Q) ∧ ((V 24 0 9) = 1 → ((¬ ((V 24 0 7) - (V 24 0 8)) = 1 → wpX7_takesPart_36 C    V Q) ∧ (((V 24 0 7) - (V 24 0 8)) = 1 → (cI C mX7_nameOf [aR 24 0, aI (V 24 0 10)] V (fun x_2 V_1 => ((x_2 < 0 → wpX7_takesPart_36 C    V_1 Q) ∧ (¬ x_2 < 0 → wpX7_takesPart_37 C   1 V_1 Q))))))))
set_option maxRecDepth 10000 in
theorem okX7_takesPart_0 {d : Nat} {P : Option AV → Mem → Prop}      (V : Mem)  (h : wpX7_takesPart_0 (Cl UM d)    V P) : Gq (Kp (d + 1) mX7_takesPart UM P) UM cX7_takesPart 2 RX7 0 [(0, aR 24 0)] [] V := by
  unfold wpX7_takesPart_0 at h
  refine go_aload_n (q := 0) dX7_takesPart_0 rfl rfl ?_
  refine go_geti fg_X7_198 dX7_takesPart_1 (mM (by decide) (by decide) rfl) ?_
  refine go_iconst (v := 1) dX7_takesPart_4 (by decide) ?_
  refine go_icmp_ne (tgt := 36) dX7_takesPart_5 (by decide) (fun c_5 => ?_) (fun c_5 => ?_)
  · have h := h.1 c_5
    exact okX7_takesPart_36     V  h
  · have h := h.2 c_5
    refine go_aload_n (q := 0) dX7_takesPart_8 rfl rfl ?_
    refine go_geti fg_X7_189 dX7_takesPart_9 (mM (by decide) (by decide) rfl) ?_
    refine go_aload_n (q := 0) dX7_takesPart_12 rfl rfl ?_
    refine go_geti fg_X7_192 dX7_takesPart_13 (mM (by decide) (by decide) rfl) ?_
    refine go_isub dX7_takesPart_16 ?_
    refine go_iconst (v := 1) dX7_takesPart_17 (by decide) ?_
    refine go_icmp_ne (tgt := 36) dX7_takesPart_18 (by decide) (fun c_4 => ?_) (fun c_4 => ?_)
    · have h := h.1 c_4
      exact okX7_takesPart_36     V  h
    · have h := h.2 c_4
      refine go_aload_n (q := 0) dX7_takesPart_21 rfl rfl ?_
      refine go_aload_n (q := 0) dX7_takesPart_22 rfl rfl ?_
      refine go_geti fg_X7_204 dX7_takesPart_23 (mM (by decide) (by decide) rfl) ?_
      refine go_cVI (As := [aI (V 24 0 10)]) (st := []) (r := 24) (i := 0) mv_X7_nameOf dX7_takesPart_26 ml_X7_225 (hr_Kp (Nat.le_refl d)) rfl rfl (mM (by decide) (by decide) rfl) rfl rfl (Nat.le_of_ble_eq_true rfl) h (fun x_2 V_1 h => ?_)
      refine go_if_lt (tgt := 36) dX7_takesPart_29 (by decide) (fun c_3 => ?_) (fun c_3 => ?_)
      · have h := h.1 c_3
        exact okX7_takesPart_36     V_1  h
      · have h := h.2 c_3
        refine go_iconst (v := 1) dX7_takesPart_32 (by decide) ?_
        refine go_goto (tgt := 37) dX7_takesPart_33 (by decide) ?_
        exact okX7_takesPart_37   1  V_1  h
theorem clX7_takesPart {d : Nat} {P : Option AV → Mem → Prop}     (V : Mem)  (h : wpX7_takesPart_0 (Cl UM d)    V P) : Cl UM (d + 1) mX7_takesPart [aR 24 0] V P :=
  cl_of [(0, aR 24 0)] (by decide) (fun _ => Nat.le_of_ble_eq_true rfl) (fun _ => rfl) (okX7_takesPart_0    V  h)
theorem dX7_takesE_0 : decode cX7_takesE 0 = .ok (.iconst 0, 1) := by decide +kernel
theorem dX7_takesE_1 : decode cX7_takesE 1 = .ok (.istore_n 1, 1) := by decide +kernel
theorem dX7_takesE_2 : decode cX7_takesE 2 = .ok (.iconst 0, 1) := by decide +kernel
theorem dX7_takesE_3 : decode cX7_takesE 3 = .ok (.istore_n 2, 1) := by decide +kernel
theorem dX7_takesE_4 : decode cX7_takesE 4 = .ok (.iconst 1, 1) := by decide +kernel
theorem dX7_takesE_5 : decode cX7_takesE 5 = .ok (.istore_n 3, 1) := by decide +kernel
theorem dX7_takesE_6 : decode cX7_takesE 6 = .ok (.aload_n 0, 1) := by decide +kernel
theorem dX7_takesE_7 : decode cX7_takesE 7 = .ok (.iconst 0, 1) := by decide +kernel
theorem dX7_takesE_8 : decode cX7_takesE 8 = .ok (.putfield 222, 3) := by decide +kernel
theorem dX7_takesE_11 : decode cX7_takesE 11 = .ok (.aload_n 0, 1) := by decide +kernel
theorem dX7_takesE_12 : decode cX7_takesE 12 = .ok (.iconst 0, 1) := by decide +kernel
theorem dX7_takesE_13 : decode cX7_takesE 13 = .ok (.putfield 228, 3) := by decide +kernel
theorem dX7_takesE_16 : decode cX7_takesE 16 = .ok (.aload_n 0, 1) := by decide +kernel
theorem dX7_takesE_17 : decode cX7_takesE 17 = .ok (.iconst 0, 1) := by decide +kernel
theorem dX7_takesE_18 : decode cX7_takesE 18 = .ok (.putfield 216, 3) := by decide +kernel
theorem dX7_takesE_21 : decode cX7_takesE 21 = .ok (.aload_n 0, 1) := by decide +kernel
theorem dX7_takesE_22 : decode cX7_takesE 22 = .ok (.getfield 38, 3) := by decide +kernel
theorem dX7_takesE_25 : decode cX7_takesE 25 = .ok (.iconst 0, 1) := by decide +kernel
theorem dX7_takesE_26 : decode cX7_takesE 26 = .ok (.iconst 0, 1) := by decide +kernel
theorem dX7_takesE_27 : decode cX7_takesE 27 = .ok (.bastore, 1) := by decide +kernel
theorem dX7_takesE_28 : decode cX7_takesE 28 = .ok (.iload_n 3, 1) := by decide +kernel
theorem dX7_takesE_29 : decode cX7_takesE 29 = .ok (.ifCond .ne 10, 3) := by decide +kernel
theorem dX7_takesE_32 : decode cX7_takesE 32 = .ok (.aload_n 0, 1) := by decide +kernel
theorem dX7_takesE_33 : decode cX7_takesE 33 = .ok (.getfield 198, 3) := by decide +kernel
theorem dX7_takesE_36 : decode cX7_takesE 36 = .ok (.ifCond .eq 309, 3) := by decide +kernel
theorem dX7_takesE_39 : decode cX7_takesE 39 = .ok (.iload_n 3, 1) := by decide +kernel
theorem dX7_takesE_40 : decode cX7_takesE 40 = .ok (.ifCond .eq 140, 3) := by decide +kernel
theorem dX7_takesE_43 : decode cX7_takesE 43 = .ok (.aload_n 0, 1) := by decide +kernel
theorem dX7_takesE_44 : decode cX7_takesE 44 = .ok (.getfield 198, 3) := by decide +kernel
theorem dX7_takesE_47 : decode cX7_takesE 47 = .ok (.iconst 3, 1) := by decide +kernel
theorem dX7_takesE_48 : decode cX7_takesE 48 = .ok (.if_icmp .ne 49, 3) := by decide +kernel
theorem dX7_takesE_51 : decode cX7_takesE 51 = .ok (.aload_n 0, 1) := by decide +kernel
theorem dX7_takesE_52 : decode cX7_takesE 52 = .ok (.getfield 204, 3) := by decide +kernel
theorem dX7_takesE_55 : decode cX7_takesE 55 = .ok (.bipush 33, 2) := by decide +kernel
theorem dX7_takesE_57 : decode cX7_takesE 57 = .ok (.if_icmp .ne 40, 3) := by decide +kernel
theorem dX7_takesE_60 : decode cX7_takesE 60 = .ok (.iload_n 2, 1) := by decide +kernel
theorem dX7_takesE_61 : decode cX7_takesE 61 = .ok (.bipush 8, 2) := by decide +kernel
theorem dX7_takesE_63 : decode cX7_takesE 63 = .ok (.if_icmp .ge 34, 3) := by decide +kernel
theorem dX7_takesE_66 : decode cX7_takesE 66 = .ok (.aload_n 0, 1) := by decide +kernel
theorem dX7_takesE_67 : decode cX7_takesE 67 = .ok (.getfield 35, 3) := by decide +kernel
theorem dX7_takesE_70 : decode cX7_takesE 70 = .ok (.aload_n 0, 1) := by decide +kernel
theorem dX7_takesE_71 : decode cX7_takesE 71 = .ok (.getfield 216, 3) := by decide +kernel
theorem dX7_takesE_74 : decode cX7_takesE 74 = .ok (.bipush (-10), 2) := by decide +kernel
theorem dX7_takesE_76 : decode cX7_takesE 76 = .ok (.iastore, 1) := by decide +kernel
theorem dX7_takesE_77 : decode cX7_takesE 77 = .ok (.aload_n 0, 1) := by decide +kernel
theorem dX7_takesE_78 : decode cX7_takesE 78 = .ok (.dup, 1) := by decide +kernel
theorem dX7_takesE_79 : decode cX7_takesE 79 = .ok (.getfield 216, 3) := by decide +kernel
theorem dX7_takesE_82 : decode cX7_takesE 82 = .ok (.iconst 1, 1) := by decide +kernel
theorem dX7_takesE_83 : decode cX7_takesE 83 = .ok (.iadd, 1) := by decide +kernel
theorem dX7_takesE_84 : decode cX7_takesE 84 = .ok (.putfield 216, 3) := by decide +kernel
theorem dX7_takesE_87 : decode cX7_takesE 87 = .ok (.iinc 2 1, 3) := by decide +kernel
theorem dX7_takesE_90 : decode cX7_takesE 90 = .ok (.aload_n 0, 1) := by decide +kernel
theorem dX7_takesE_91 : decode cX7_takesE 91 = .ok (.invokevirtual 213, 3) := by decide +kernel
theorem dX7_takesE_94 : decode cX7_takesE 94 = .ok (.goto 78, 3) := by decide +kernel
theorem dX7_takesE_97 : decode cX7_takesE 97 = .ok (.aload_n 0, 1) := by decide +kernel
theorem dX7_takesE_98 : decode cX7_takesE 98 = .ok (.getfield 198, 3) := by decide +kernel
theorem dX7_takesE_101 : decode cX7_takesE 101 = .ok (.iconst 3, 1) := by decide +kernel
theorem dX7_takesE_102 : decode cX7_takesE 102 = .ok (.if_icmp .ne 56, 3) := by decide +kernel
theorem dX7_takesE_105 : decode cX7_takesE 105 = .ok (.aload_n 0, 1) := by decide +kernel
theorem dX7_takesE_106 : decode cX7_takesE 106 = .ok (.getfield 204, 3) := by decide +kernel
theorem dX7_takesE_109 : decode cX7_takesE 109 = .ok (.bipush 40, 2) := by decide +kernel
theorem dX7_takesE_111 : decode cX7_takesE 111 = .ok (.if_icmp .ne 47, 3) := by decide +kernel
theorem dX7_takesE_114 : decode cX7_takesE 114 = .ok (.iload_n 1, 1) := by decide +kernel
theorem dX7_takesE_115 : decode cX7_takesE 115 = .ok (.bipush 8, 2) := by decide +kernel
theorem dX7_takesE_117 : decode cX7_takesE 117 = .ok (.if_icmp .ge 41, 3) := by decide +kernel
theorem dX7_takesE_120 : decode cX7_takesE 120 = .ok (.aload_n 0, 1) := by decide +kernel
theorem dX7_takesE_121 : decode cX7_takesE 121 = .ok (.getfield 35, 3) := by decide +kernel
theorem dX7_takesE_124 : decode cX7_takesE 124 = .ok (.aload_n 0, 1) := by decide +kernel
theorem dX7_takesE_125 : decode cX7_takesE 125 = .ok (.getfield 216, 3) := by decide +kernel
theorem dX7_takesE_128 : decode cX7_takesE 128 = .ok (.bipush (-11), 2) := by decide +kernel
theorem dX7_takesE_130 : decode cX7_takesE 130 = .ok (.iastore, 1) := by decide +kernel
theorem dX7_takesE_131 : decode cX7_takesE 131 = .ok (.aload_n 0, 1) := by decide +kernel
theorem dX7_takesE_132 : decode cX7_takesE 132 = .ok (.dup, 1) := by decide +kernel
theorem dX7_takesE_133 : decode cX7_takesE 133 = .ok (.getfield 216, 3) := by decide +kernel
theorem dX7_takesE_136 : decode cX7_takesE 136 = .ok (.iconst 1, 1) := by decide +kernel
theorem dX7_takesE_137 : decode cX7_takesE 137 = .ok (.iadd, 1) := by decide +kernel
theorem dX7_takesE_138 : decode cX7_takesE 138 = .ok (.putfield 216, 3) := by decide +kernel
theorem dX7_takesE_141 : decode cX7_takesE 141 = .ok (.iinc 1 1, 3) := by decide +kernel
theorem dX7_takesE_144 : decode cX7_takesE 144 = .ok (.aload_n 0, 1) := by decide +kernel
theorem dX7_takesE_145 : decode cX7_takesE 145 = .ok (.getfield 38, 3) := by decide +kernel
theorem dX7_takesE_148 : decode cX7_takesE 148 = .ok (.iload_n 1, 1) := by decide +kernel
theorem dX7_takesE_149 : decode cX7_takesE 149 = .ok (.iconst 0, 1) := by decide +kernel
theorem dX7_takesE_150 : decode cX7_takesE 150 = .ok (.bastore, 1) := by decide +kernel
theorem dX7_takesE_151 : decode cX7_takesE 151 = .ok (.aload_n 0, 1) := by decide +kernel
theorem dX7_takesE_152 : decode cX7_takesE 152 = .ok (.invokevirtual 213, 3) := by decide +kernel
theorem dX7_takesE_155 : decode cX7_takesE 155 = .ok (.goto 17, 3) := by decide +kernel
theorem dX7_takesE_158 : decode cX7_takesE 158 = .ok (.aload_n 0, 1) := by decide +kernel
theorem dX7_takesE_159 : decode cX7_takesE 159 = .ok (.invokevirtual 235, 3) := by decide +kernel
theorem dX7_takesE_162 : decode cX7_takesE 162 = .ok (.ifCond .eq 8, 3) := by decide +kernel
theorem dX7_takesE_165 : decode cX7_takesE 165 = .ok (.iconst 0, 1) := by decide +kernel
theorem dX7_takesE_166 : decode cX7_takesE 166 = .ok (.istore_n 3, 1) := by decide +kernel
theorem dX7_takesE_167 : decode cX7_takesE 167 = .ok (.goto 5, 3) := by decide +kernel
theorem dX7_takesE_170 : decode cX7_takesE 170 = .ok (.iconst 0, 1) := by decide +kernel
theorem dX7_takesE_171 : decode cX7_takesE 171 = .ok (.ireturn, 1) := by decide +kernel
theorem dX7_takesE_172 : decode cX7_takesE 172 = .ok (.aload_n 0, 1) := by decide +kernel
theorem dX7_takesE_173 : decode cX7_takesE 173 = .ok (.invokevirtual 239, 3) := by decide +kernel
theorem dX7_takesE_176 : decode cX7_takesE 176 = .ok (.istore_n 2, 1) := by decide +kernel
theorem dX7_takesE_177 : decode cX7_takesE 177 = .ok (.goto (-149), 3) := by decide +kernel
theorem dX7_takesE_180 : decode cX7_takesE 180 = .ok (.aload_n 0, 1) := by decide +kernel
theorem dX7_takesE_181 : decode cX7_takesE 181 = .ok (.getfield 198, 3) := by decide +kernel
theorem dX7_takesE_184 : decode cX7_takesE 184 = .ok (.iconst 3, 1) := by decide +kernel
theorem dX7_takesE_185 : decode cX7_takesE 185 = .ok (.if_icmp .ne 52, 3) := by decide +kernel
theorem dX7_takesE_188 : decode cX7_takesE 188 = .ok (.aload_n 0, 1) := by decide +kernel
theorem dX7_takesE_189 : decode cX7_takesE 189 = .ok (.getfield 204, 3) := by decide +kernel
theorem dX7_takesE_192 : decode cX7_takesE 192 = .ok (.bipush 41, 2) := by decide +kernel
theorem dX7_takesE_194 : decode cX7_takesE 194 = .ok (.if_icmp .ne 43, 3) := by decide +kernel
theorem dX7_takesE_197 : decode cX7_takesE 197 = .ok (.iload_n 1, 1) := by decide +kernel
theorem dX7_takesE_198 : decode cX7_takesE 198 = .ok (.ifCond .le 39, 3) := by decide +kernel
theorem dX7_takesE_201 : decode cX7_takesE 201 = .ok (.aload_n 0, 1) := by decide +kernel
theorem dX7_takesE_202 : decode cX7_takesE 202 = .ok (.iconst 0, 1) := by decide +kernel
theorem dX7_takesE_203 : decode cX7_takesE 203 = .ok (.invokevirtual 231, 3) := by decide +kernel
theorem dX7_takesE_206 : decode cX7_takesE 206 = .ok (.aload_n 0, 1) := by decide +kernel
theorem dX7_takesE_207 : decode cX7_takesE 207 = .ok (.dup, 1) := by decide +kernel
theorem dX7_takesE_208 : decode cX7_takesE 208 = .ok (.getfield 216, 3) := by decide +kernel
theorem dX7_takesE_211 : decode cX7_takesE 211 = .ok (.iconst 1, 1) := by decide +kernel
theorem dX7_takesE_212 : decode cX7_takesE 212 = .ok (.isub, 1) := by decide +kernel
theorem dX7_takesE_213 : decode cX7_takesE 213 = .ok (.putfield 216, 3) := by decide +kernel
theorem dX7_takesE_216 : decode cX7_takesE 216 = .ok (.iinc 1 (-1), 3) := by decide +kernel
theorem dX7_takesE_219 : decode cX7_takesE 219 = .ok (.aload_n 0, 1) := by decide +kernel
theorem dX7_takesE_220 : decode cX7_takesE 220 = .ok (.bipush 6, 2) := by decide +kernel
theorem dX7_takesE_222 : decode cX7_takesE 222 = .ok (.invokevirtual 231, 3) := by decide +kernel
theorem dX7_takesE_225 : decode cX7_takesE 225 = .ok (.aload_n 0, 1) := by decide +kernel
theorem dX7_takesE_226 : decode cX7_takesE 226 = .ok (.invokevirtual 239, 3) := by decide +kernel
theorem dX7_takesE_229 : decode cX7_takesE 229 = .ok (.istore_n 2, 1) := by decide +kernel
theorem dX7_takesE_230 : decode cX7_takesE 230 = .ok (.aload_n 0, 1) := by decide +kernel
theorem dX7_takesE_231 : decode cX7_takesE 231 = .ok (.invokevirtual 213, 3) := by decide +kernel
theorem dX7_takesE_234 : decode cX7_takesE 234 = .ok (.goto (-206), 3) := by decide +kernel
theorem dX7_takesE_237 : decode cX7_takesE 237 = .ok (.aload_n 0, 1) := by decide +kernel
theorem dX7_takesE_238 : decode cX7_takesE 238 = .ok (.invokevirtual 242, 3) := by decide +kernel
theorem dX7_takesE_241 : decode cX7_takesE 241 = .ok (.istore 4, 2) := by decide +kernel
theorem dX7_takesE_243 : decode cX7_takesE 243 = .ok (.iload 4, 2) := by decide +kernel
theorem dX7_takesE_245 : decode cX7_takesE 245 = .ok (.ifCond .eq 21, 3) := by decide +kernel
theorem dX7_takesE_248 : decode cX7_takesE 248 = .ok (.iload 4, 2) := by decide +kernel
theorem dX7_takesE_250 : decode cX7_takesE 250 = .ok (.invokestatic 219, 3) := by decide +kernel
theorem dX7_takesE_253 : decode cX7_takesE 253 = .ok (.iconst 3, 1) := by decide +kernel
theorem dX7_takesE_254 : decode cX7_takesE 254 = .ok (.if_icmp .ne 14, 3) := by decide +kernel
theorem dX7_takesE_257 : decode cX7_takesE 257 = .ok (.aload_n 0, 1) := by decide +kernel
theorem dX7_takesE_258 : decode cX7_takesE 258 = .ok (.getfield 38, 3) := by decide +kernel
theorem dX7_takesE_261 : decode cX7_takesE 261 = .ok (.iload_n 1, 1) := by decide +kernel
theorem dX7_takesE_262 : decode cX7_takesE 262 = .ok (.baload, 1) := by decide +kernel
theorem dX7_takesE_263 : decode cX7_takesE 263 = .ok (.ifCond .eq 5, 3) := by decide +kernel
theorem dX7_takesE_266 : decode cX7_takesE 266 = .ok (.iconst 0, 1) := by decide +kernel
theorem dX7_takesE_267 : decode cX7_takesE 267 = .ok (.ireturn, 1) := by decide +kernel
theorem dX7_takesE_268 : decode cX7_takesE 268 = .ok (.aload_n 0, 1) := by decide +kernel
theorem dX7_takesE_269 : decode cX7_takesE 269 = .ok (.getfield 38, 3) := by decide +kernel
theorem dX7_takesE_272 : decode cX7_takesE 272 = .ok (.iload_n 1, 1) := by decide +kernel
theorem dX7_takesE_273 : decode cX7_takesE 273 = .ok (.iload 4, 2) := by decide +kernel
theorem dX7_takesE_275 : decode cX7_takesE 275 = .ok (.invokestatic 219, 3) := by decide +kernel
theorem dX7_takesE_278 : decode cX7_takesE 278 = .ok (.iconst 3, 1) := by decide +kernel
theorem dX7_takesE_279 : decode cX7_takesE 279 = .ok (.if_icmp .eq 21, 3) := by decide +kernel
theorem dX7_takesE_282 : decode cX7_takesE 282 = .ok (.iload 4, 2) := by decide +kernel
theorem dX7_takesE_284 : decode cX7_takesE 284 = .ok (.invokestatic 219, 3) := by decide +kernel
theorem dX7_takesE_287 : decode cX7_takesE 287 = .ok (.iconst 3, 1) := by decide +kernel
theorem dX7_takesE_288 : decode cX7_takesE 288 = .ok (.if_icmp .le 16, 3) := by decide +kernel
theorem dX7_takesE_291 : decode cX7_takesE 291 = .ok (.aload_n 0, 1) := by decide +kernel
theorem dX7_takesE_292 : decode cX7_takesE 292 = .ok (.getfield 38, 3) := by decide +kernel
theorem dX7_takesE_295 : decode cX7_takesE 295 = .ok (.iload_n 1, 1) := by decide +kernel
theorem dX7_takesE_296 : decode cX7_takesE 296 = .ok (.baload, 1) := by decide +kernel
theorem dX7_takesE_297 : decode cX7_takesE 297 = .ok (.ifCond .eq 7, 3) := by decide +kernel
theorem dX7_takesE_300 : decode cX7_takesE 300 = .ok (.iconst 1, 1) := by decide +kernel
theorem dX7_takesE_301 : decode cX7_takesE 301 = .ok (.goto 4, 3) := by decide +kernel
theorem dX7_takesE_304 : decode cX7_takesE 304 = .ok (.iconst 0, 1) := by decide +kernel
theorem dX7_takesE_305 : decode cX7_takesE 305 = .ok (.bastore, 1) := by decide +kernel
theorem dX7_takesE_306 : decode cX7_takesE 306 = .ok (.aload_n 0, 1) := by decide +kernel
theorem dX7_takesE_307 : decode cX7_takesE 307 = .ok (.iload 4, 2) := by decide +kernel
theorem dX7_takesE_309 : decode cX7_takesE 309 = .ok (.invokestatic 219, 3) := by decide +kernel
theorem dX7_takesE_312 : decode cX7_takesE 312 = .ok (.invokevirtual 231, 3) := by decide +kernel
theorem dX7_takesE_315 : decode cX7_takesE 315 = .ok (.aload_n 0, 1) := by decide +kernel
theorem dX7_takesE_316 : decode cX7_takesE 316 = .ok (.getfield 35, 3) := by decide +kernel
theorem dX7_takesE_319 : decode cX7_takesE 319 = .ok (.aload_n 0, 1) := by decide +kernel
theorem dX7_takesE_320 : decode cX7_takesE 320 = .ok (.getfield 216, 3) := by decide +kernel
theorem dX7_takesE_323 : decode cX7_takesE 323 = .ok (.iload 4, 2) := by decide +kernel
theorem dX7_takesE_325 : decode cX7_takesE 325 = .ok (.iastore, 1) := by decide +kernel
theorem dX7_takesE_326 : decode cX7_takesE 326 = .ok (.aload_n 0, 1) := by decide +kernel
theorem dX7_takesE_327 : decode cX7_takesE 327 = .ok (.dup, 1) := by decide +kernel
theorem dX7_takesE_328 : decode cX7_takesE 328 = .ok (.getfield 216, 3) := by decide +kernel
theorem dX7_takesE_331 : decode cX7_takesE 331 = .ok (.iconst 1, 1) := by decide +kernel
theorem dX7_takesE_332 : decode cX7_takesE 332 = .ok (.iadd, 1) := by decide +kernel
theorem dX7_takesE_333 : decode cX7_takesE 333 = .ok (.putfield 216, 3) := by decide +kernel
theorem dX7_takesE_336 : decode cX7_takesE 336 = .ok (.iconst 1, 1) := by decide +kernel
theorem dX7_takesE_337 : decode cX7_takesE 337 = .ok (.istore_n 3, 1) := by decide +kernel
theorem dX7_takesE_338 : decode cX7_takesE 338 = .ok (.aload_n 0, 1) := by decide +kernel
theorem dX7_takesE_339 : decode cX7_takesE 339 = .ok (.invokevirtual 213, 3) := by decide +kernel
theorem dX7_takesE_342 : decode cX7_takesE 342 = .ok (.goto (-314), 3) := by decide +kernel
theorem dX7_takesE_345 : decode cX7_takesE 345 = .ok (.aload_n 0, 1) := by decide +kernel
theorem dX7_takesE_346 : decode cX7_takesE 346 = .ok (.iconst 0, 1) := by decide +kernel
theorem dX7_takesE_347 : decode cX7_takesE 347 = .ok (.invokevirtual 231, 3) := by decide +kernel
theorem dX7_takesE_350 : decode cX7_takesE 350 = .ok (.iload_n 1, 1) := by decide +kernel
theorem dX7_takesE_351 : decode cX7_takesE 351 = .ok (.ifCond .ne 7, 3) := by decide +kernel
theorem dX7_takesE_354 : decode cX7_takesE 354 = .ok (.iconst 1, 1) := by decide +kernel
theorem dX7_takesE_355 : decode cX7_takesE 355 = .ok (.goto 4, 3) := by decide +kernel
theorem dX7_takesE_358 : decode cX7_takesE 358 = .ok (.iconst 0, 1) := by decide +kernel
theorem dX7_takesE_359 : decode cX7_takesE 359 = .ok (.ireturn, 1) := by decide +kernel
def wpX7_takesE_305 (C : CT) (I28 : Int32 → Int32 → Int32 → Mem → Prop)  (x1 : Int32) (x2 : Int32) (x3 : Int32) (x4 : Int32) (s0 : Int32) (s1 : Int32) (V : Mem) (Q : Option AV → Mem → Prop) : Prop :=
  (∃ j_1 : Nat, s1 = nI j_1 ∧ j_1 < 10 ∧ ((s0 = 0 ∨ s0 = 1) ∧ (∀ V_3 : Mem, V_3 = mu V 34 0 j_1 s0 → (cI C mX7_rank [aI x4] V_3 (fun x_5 V_4 => (cV C mX7_settle [aR 24 0, aI x_5] V_4 (fun V_6 => (∃ j_7 : Nat, (V_6 24 0 19) = nI j_7 ∧ j_7 < 96 ∧ (∀ V_8 : Mem, V_8 = mu V_6 33 0 j_7 x4 → (∀ V_9 : Mem, V_9 = mu V_8 24 0 19 ((V_8 24 0 19) + 1) → (cV C mX7_go [aR 24 0] V_9 (fun V_10 => I28 x1 x2 1 V_10))))))))))))
set_option maxRecDepth 10000 in
theorem okX7_takesE_305 {d : Nat} {P : Option AV → Mem → Prop} {I28 : Int32 → Int32 → Int32 → Mem → Prop}   (x1 : Int32) (x2 : Int32) (x3 : Int32) (x4 : Int32) (s0 : Int32) (s1 : Int32)  (V : Mem) (hk28 : ∀ (x1 : Int32) (x2 : Int32) (x3 : Int32), ∀ (V : Mem), I28 x1 x2 x3 V → Gq (Kp (d + 1) mX7_takesE UM P) UM cX7_takesE 5 RX7 28 [(0, aR 24 0), (1, aI x1), (2, aI x2), (3, aI x3)] [] V) (h : wpX7_takesE_305 (Cl UM d) I28  x1 x2 x3 x4 s0 s1 V P) : Gq (Kp (d + 1) mX7_takesE UM P) UM cX7_takesE 5 RX7 305 [(0, aR 24 0), (1, aI x1), (2, aI x2), (3, aI x3), (4, aI x4)] [aI s0, aI s1, aR 34 0] V := by
  unfold wpX7_takesE_305 at h
  obtain ⟨j_1, e_j_1, l_j_1, h⟩ := h
  obtain ⟨c_2, h⟩ := h
  refine go_zast (r := 34) (n := 10) (j := j_1) rfl (by decide) dX7_takesE_305 (mM (by decide) (by decide) rfl) e_j_1 l_j_1 c_2 ?_
  refine nmV (fun V_3 e_V_3 => ?_)
  have h := h V_3 e_V_3
  refine go_aload_n (q := 0) dX7_takesE_306 rfl rfl ?_
  refine go_iload (q := 4) dX7_takesE_307 rfl ?_
  refine go_cSI (As := [aI x4]) (st := [aR 24 0]) ms_X7_rank dX7_takesE_309 ml_X7_219 (hr_Kp (Nat.le_refl d)) rfl rfl (Nat.le_of_ble_eq_true rfl) h (fun x_5 V_4 h => ?_)
  refine go_cVV (As := [aI x_5]) (st := []) (r := 24) (i := 0) mv_X7_settle dX7_takesE_312 ml_X7_231 (hr_Kp (Nat.le_refl d)) rfl rfl (mM (by decide) (by decide) rfl) rfl rfl (Nat.le_of_ble_eq_true rfl) h (fun V_6 h => ?_)
  refine go_aload_n (q := 0) dX7_takesE_315 rfl rfl ?_
  refine go_getr fg_X7_35 dX7_takesE_316 (mM (by decide) (by decide) rfl) ?_
  refine go_aload_n (q := 0) dX7_takesE_319 rfl rfl ?_
  refine go_geti fg_X7_216 dX7_takesE_320 (mM (by decide) (by decide) rfl) ?_
  refine go_iload (q := 4) dX7_takesE_323 rfl ?_
  obtain ⟨j_7, e_j_7, l_j_7, h⟩ := h
  refine go_iast (r := 33) (n := 96) (j := j_7) rfl (by decide) dX7_takesE_325 (mM (by decide) (by decide) rfl) e_j_7 l_j_7 ?_
  refine nmV (fun V_8 e_V_8 => ?_)
  have h := h V_8 e_V_8
  refine go_aload_n (q := 0) dX7_takesE_326 rfl rfl ?_
  refine go_dup dX7_takesE_327 rfl ?_
  refine go_geti fg_X7_216 dX7_takesE_328 (mM (by decide) (by decide) rfl) ?_
  refine go_iconst (v := 1) dX7_takesE_331 (by decide) ?_
  refine go_iadd dX7_takesE_332 ?_
  refine go_puti fp_X7_216 dX7_takesE_333 (mM (by decide) (by decide) rfl) ?_
  refine nmV (fun V_9 e_V_9 => ?_)
  have h := h V_9 e_V_9
  refine go_iconst (v := 1) dX7_takesE_336 (by decide) ?_
  refine go_istore_n (al1 := [(3, aI 1), (0, aR 24 0), (1, aI x1), (2, aI x2), (4, aI x4)]) dX7_takesE_337 rfl (by decide) rfl ?_
  refine go_aload_n (q := 1) dX7_takesE_338 rfl rfl ?_
  refine go_cVV (As := []) (st := []) (r := 24) (i := 0) mv_X7_go dX7_takesE_339 ml_X7_213 (hr_Kp (Nat.le_refl d)) rfl rfl (mM (by decide) (by decide) rfl) rfl rfl (Nat.le_of_ble_eq_true rfl) h (fun V_10 h => ?_)
  refine go_goto (tgt := 28) dX7_takesE_342 (by decide) ?_
  refine go_sub (al1 := [(0, aR 24 0), (1, aI x1), (2, aI x2), (3, aI 1)]) [1, 2, 3, 0] rfl ?_
  exact hk28 x1 x2 1  V_10 h
def wpX7_takesE_304 (C : CT) (I28 : Int32 → Int32 → Int32 → Mem → Prop)  (x1 : Int32) (x2 : Int32) (x3 : Int32) (x4 : Int32) (s0 : Int32) (V : Mem) (Q : Option AV → Mem → Prop) : Prop :=
  wpX7_takesE_305 C I28  x1 x2 x3 x4 0 s0 V Q
set_option maxRecDepth 10000 in
theorem okX7_takesE_304 {d : Nat} {P : Option AV → Mem → Prop} {I28 : Int32 → Int32 → Int32 → Mem → Prop}   (x1 : Int32) (x2 : Int32) (x3 : Int32) (x4 : Int32) (s0 : Int32)  (V : Mem) (hk28 : ∀ (x1 : Int32) (x2 : Int32) (x3 : Int32), ∀ (V : Mem), I28 x1 x2 x3 V → Gq (Kp (d + 1) mX7_takesE UM P) UM cX7_takesE 5 RX7 28 [(0, aR 24 0), (1, aI x1), (2, aI x2), (3, aI x3)] [] V) (h : wpX7_takesE_304 (Cl UM d) I28  x1 x2 x3 x4 s0 V P) : Gq (Kp (d + 1) mX7_takesE UM P) UM cX7_takesE 5 RX7 304 [(0, aR 24 0), (1, aI x1), (2, aI x2), (3, aI x3), (4, aI x4)] [aI s0, aR 34 0] V := by
  unfold wpX7_takesE_304 at h
  refine go_iconst (v := 0) dX7_takesE_304 (by decide) ?_
  exact okX7_takesE_305   x1 x2 x3 x4 0 s0  V hk28 h
def wpX7_takesE_300 (C : CT) (I28 : Int32 → Int32 → Int32 → Mem → Prop)  (x1 : Int32) (x2 : Int32) (x3 : Int32) (x4 : Int32) (s0 : Int32) (V : Mem) (Q : Option AV → Mem → Prop) : Prop :=
  wpX7_takesE_305 C I28  x1 x2 x3 x4 1 s0 V Q
set_option maxRecDepth 10000 in
theorem okX7_takesE_300 {d : Nat} {P : Option AV → Mem → Prop} {I28 : Int32 → Int32 → Int32 → Mem → Prop}   (x1 : Int32) (x2 : Int32) (x3 : Int32) (x4 : Int32) (s0 : Int32)  (V : Mem) (hk28 : ∀ (x1 : Int32) (x2 : Int32) (x3 : Int32), ∀ (V : Mem), I28 x1 x2 x3 V → Gq (Kp (d + 1) mX7_takesE UM P) UM cX7_takesE 5 RX7 28 [(0, aR 24 0), (1, aI x1), (2, aI x2), (3, aI x3)] [] V) (h : wpX7_takesE_300 (Cl UM d) I28  x1 x2 x3 x4 s0 V P) : Gq (Kp (d + 1) mX7_takesE UM P) UM cX7_takesE 5 RX7 300 [(0, aR 24 0), (1, aI x1), (2, aI x2), (3, aI x3), (4, aI x4)] [aI s0, aR 34 0] V := by
  unfold wpX7_takesE_300 at h
  refine go_iconst (v := 1) dX7_takesE_300 (by decide) ?_
  refine go_goto (tgt := 305) dX7_takesE_301 (by decide) ?_
  exact okX7_takesE_305   x1 x2 x3 x4 1 s0  V hk28 h
def wpX7_takesE_268 (C : CT) (I28 : Int32 → Int32 → Int32 → Mem → Prop)  (x1 : Int32) (x2 : Int32) (x3 : Int32) (x4 : Int32) (V : Mem) (Q : Option AV → Mem → Prop) : Prop :=
  (cI C mX7_rank [aI x4] V (fun x_2 V_1 => ((x_2 = 3 → wpX7_takesE_300 C I28  x1 x2 x3 x4 x1 V_1 Q) ∧ (¬ x_2 = 3 → (cI C mX7_rank [aI x4] V_1 (fun x_4 V_3 => ((x_4 ≤ 3 → wpX7_takesE_304 C I28  x1 x2 x3 x4 x1 V_3 Q) ∧ (¬ x_4 ≤ 3 → (∃ j_5 : Nat, x1 = nI j_5 ∧ j_5 < 10 ∧ (((V_3 34 0 j_5) = 0 → wpX7_takesE_304 C I28  x1 x2 x3 x4 x1 V_3 Q) ∧ (¬ (V_3 34 0 j_5) = 0 → wpX7_takesE_300 C I28  x1 x2 x3 x4 x1 V_3 Q)))))))))))
set_option maxRecDepth 10000 in
theorem okX7_takesE_268 {d : Nat} {P : Option AV → Mem → Prop} {I28 : Int32 → Int32 → Int32 → Mem → Prop}   (x1 : Int32) (x2 : Int32) (x3 : Int32) (x4 : Int32)  (V : Mem) (hk28 : ∀ (x1 : Int32) (x2 : Int32) (x3 : Int32), ∀ (V : Mem), I28 x1 x2 x3 V → Gq (Kp (d + 1) mX7_takesE UM P) UM cX7_takesE 5 RX7 28 [(0, aR 24 0), (1, aI x1), (2, aI x2), (3, aI x3)] [] V) (h : wpX7_takesE_268 (Cl UM d) I28  x1 x2 x3 x4 V P) : Gq (Kp (d + 1) mX7_takesE UM P) UM cX7_takesE 5 RX7 268 [(0, aR 24 0), (1, aI x1), (2, aI x2), (3, aI x3), (4, aI x4)] [] V := by
  unfold wpX7_takesE_268 at h
  refine go_aload_n (q := 0) dX7_takesE_268 rfl rfl ?_
  refine go_getr fg_X7_38 dX7_takesE_269 (mM (by decide) (by decide) rfl) ?_
  refine go_iload_n (q := 1) dX7_takesE_272 rfl rfl ?_
  refine go_iload (q := 4) dX7_takesE_273 rfl ?_
  refine go_cSI (As := [aI x4]) (st := [aI x1, aR 34 0]) ms_X7_rank dX7_takesE_275 ml_X7_219 (hr_Kp (Nat.le_refl d)) rfl rfl (Nat.le_of_ble_eq_true rfl) h (fun x_2 V_1 h => ?_)
  refine go_iconst (v := 3) dX7_takesE_278 (by decide) ?_
  refine go_icmp_eq (tgt := 300) dX7_takesE_279 (by decide) (fun c_8 => ?_) (fun c_8 => ?_)
  · have h := h.1 c_8
    exact okX7_takesE_300   x1 x2 x3 x4 x1  V_1 hk28 h
  · have h := h.2 c_8
    refine go_iload (q := 4) dX7_takesE_282 rfl ?_
    refine go_cSI (As := [aI x4]) (st := [aI x1, aR 34 0]) ms_X7_rank dX7_takesE_284 ml_X7_219 (hr_Kp (Nat.le_refl d)) rfl rfl (Nat.le_of_ble_eq_true rfl) h (fun x_4 V_3 h => ?_)
    refine go_iconst (v := 3) dX7_takesE_287 (by decide) ?_
    refine go_icmp_le (tgt := 304) dX7_takesE_288 (by decide) (fun c_7 => ?_) (fun c_7 => ?_)
    · have h := h.1 c_7
      exact okX7_takesE_304   x1 x2 x3 x4 x1  V_3 hk28 h
    · have h := h.2 c_7
      refine go_aload_n (q := 0) dX7_takesE_291 rfl rfl ?_
      refine go_getr fg_X7_38 dX7_takesE_292 (mM (by decide) (by decide) rfl) ?_
      refine go_iload_n (q := 1) dX7_takesE_295 rfl rfl ?_
      obtain ⟨j_5, e_j_5, l_j_5, h⟩ := h
      refine go_zald (r := 34) (n := 10) (j := j_5) rfl (by decide) dX7_takesE_296 (mM (by decide) (by decide) rfl) e_j_5 l_j_5 ?_
      refine go_if_eq (tgt := 304) dX7_takesE_297 (by decide) (fun c_6 => ?_) (fun c_6 => ?_)
      · have h := h.1 c_6
        exact okX7_takesE_304   x1 x2 x3 x4 x1  V_3 hk28 h
      · have h := h.2 c_6
        exact okX7_takesE_300   x1 x2 x3 x4 x1  V_3 hk28 h
def wpX7_takesE_237 (C : CT) (I28 : Int32 → Int32 → Int32 → Mem → Prop)  (x1 : Int32) (x2 : Int32) (x3 : Int32) (V : Mem) (Q : Option AV → Mem → Prop) : Prop :=
  (cI C mX7_signHere [aR 24 0] V (fun x_2 V_1 => ((x_2 = 0 → Q (some (aI 0)) V_1) ∧ (¬ x_2 = 0 → (cI C mX7_rank [aI x_2] V_1 (fun x_4 V_3 => ((¬ x_4 = 3 → wpX7_takesE_268 C I28  x1 x2 x3 x_2 V_3 Q) ∧ (x_4 = 3 → (∃ j_5 : Nat, x1 = nI j_5 ∧ j_5 < 10 ∧ (((V_3 34 0 j_5) = 0 → wpX7_takesE_268 C I28  x1 x2 x3 x_2 V_3 Q) ∧ (¬ (V_3 34 0 j_5) = 0 → Q (some (aI 0)) V_3)))))))))))
set_option maxRecDepth 10000 in
theorem okX7_takesE_237 {d : Nat} {P : Option AV → Mem → Prop} {I28 : Int32 → Int32 → Int32 → Mem → Prop}   (x1 : Int32) (x2 : Int32) (x3 : Int32)  (V : Mem) (hk28 : ∀ (x1 : Int32) (x2 : Int32) (x3 : Int32), ∀ (V : Mem), I28 x1 x2 x3 V → Gq (Kp (d + 1) mX7_takesE UM P) UM cX7_takesE 5 RX7 28 [(0, aR 24 0), (1, aI x1), (2, aI x2), (3, aI x3)] [] V) (h : wpX7_takesE_237 (Cl UM d) I28  x1 x2 x3 V P) : Gq (Kp (d + 1) mX7_takesE UM P) UM cX7_takesE 5 RX7 237 [(0, aR 24 0), (1, aI x1), (2, aI x2), (3, aI x3)] [] V := by
  unfold wpX7_takesE_237 at h
  refine go_aload_n (q := 0) dX7_takesE_237 rfl rfl ?_
  refine go_cVI (As := []) (st := []) (r := 24) (i := 0) mv_X7_signHere dX7_takesE_238 ml_X7_242 (hr_Kp (Nat.le_refl d)) rfl rfl (mM (by decide) (by decide) rfl) rfl rfl (Nat.le_of_ble_eq_true rfl) h (fun x_2 V_1 h => ?_)
  refine go_istore (al1 := [(4, aI x_2), (0, aR 24 0), (1, aI x1), (2, aI x2), (3, aI x3)]) dX7_takesE_241 (by decide) rfl ?_
  refine go_iload (q := 0) dX7_takesE_243 rfl ?_
  refine go_if_eq (tgt := 266) dX7_takesE_245 (by decide) (fun c_8 => ?_) (fun c_8 => ?_)
  · have h := h.1 c_8
    refine go_iconst (v := 0) dX7_takesE_266 (by decide) ?_
    exact go_bret rfl dX7_takesE_267 (by decide) h
  · have h := h.2 c_8
    refine go_iload (q := 0) dX7_takesE_248 rfl ?_
    refine go_cSI (As := [aI x_2]) (st := []) ms_X7_rank dX7_takesE_250 ml_X7_219 (hr_Kp (Nat.le_refl d)) rfl rfl (Nat.le_of_ble_eq_true rfl) h (fun x_4 V_3 h => ?_)
    refine go_iconst (v := 3) dX7_takesE_253 (by decide) ?_
    refine go_icmp_ne (tgt := 268) dX7_takesE_254 (by decide) (fun c_7 => ?_) (fun c_7 => ?_)
    · have h := h.1 c_7
      refine go_sub (al1 := [(0, aR 24 0), (1, aI x1), (2, aI x2), (3, aI x3), (4, aI x_2)]) [1, 2, 3, 4, 0] rfl ?_
      exact okX7_takesE_268   x1 x2 x3 x_2  V_3 hk28 h
    · have h := h.2 c_7
      refine go_aload_n (q := 1) dX7_takesE_257 rfl rfl ?_
      refine go_getr fg_X7_38 dX7_takesE_258 (mM (by decide) (by decide) rfl) ?_
      refine go_iload_n (q := 2) dX7_takesE_261 rfl rfl ?_
      obtain ⟨j_5, e_j_5, l_j_5, h⟩ := h
      refine go_zald (r := 34) (n := 10) (j := j_5) rfl (by decide) dX7_takesE_262 (mM (by decide) (by decide) rfl) e_j_5 l_j_5 ?_
      refine go_if_eq (tgt := 268) dX7_takesE_263 (by decide) (fun c_6 => ?_) (fun c_6 => ?_)
      · have h := h.1 c_6
        refine go_sub (al1 := [(0, aR 24 0), (1, aI x1), (2, aI x2), (3, aI x3), (4, aI x_2)]) [1, 2, 3, 4, 0] rfl ?_
        exact okX7_takesE_268   x1 x2 x3 x_2  V_3 hk28 h
      · have h := h.2 c_6
        refine go_iconst (v := 0) dX7_takesE_266 (by decide) ?_
        exact go_bret rfl dX7_takesE_267 (by decide) h
def wpX7_takesE_158 (C : CT) (I28 : Int32 → Int32 → Int32 → Mem → Prop)  (x1 : Int32) (x2 : Int32) (x3 : Int32) (V : Mem) (Q : Option AV → Mem → Prop) : Prop :=
  (cI C mX7_takesPart [aR 24 0] V (fun x_2 V_1 => ((x_2 = 0 → Q (some (aI 0)) V_1) ∧ (¬ x_2 = 0 → (cI C mX7_notsOpen [aR 24 0] V_1 (fun x_4 V_3 => I28 x1 x_4 0 V_3))))))
set_option maxRecDepth 10000 in
theorem okX7_takesE_158 {d : Nat} {P : Option AV → Mem → Prop} {I28 : Int32 → Int32 → Int32 → Mem → Prop}   (x1 : Int32) (x2 : Int32) (x3 : Int32)  (V : Mem) (hk28 : ∀ (x1 : Int32) (x2 : Int32) (x3 : Int32), ∀ (V : Mem), I28 x1 x2 x3 V → Gq (Kp (d + 1) mX7_takesE UM P) UM cX7_takesE 5 RX7 28 [(0, aR 24 0), (1, aI x1), (2, aI x2), (3, aI x3)] [] V) (h : wpX7_takesE_158 (Cl UM d) I28  x1 x2 x3 V P) : Gq (Kp (d + 1) mX7_takesE UM P) UM cX7_takesE 5 RX7 158 [(0, aR 24 0), (1, aI x1), (2, aI x2), (3, aI x3)] [] V := by
  unfold wpX7_takesE_158 at h
  refine go_aload_n (q := 0) dX7_takesE_158 rfl rfl ?_
  refine go_cVI (As := []) (st := []) (r := 24) (i := 0) mv_X7_takesPart dX7_takesE_159 ml_X7_235 (hr_Kp (Nat.le_refl d)) rfl rfl (mM (by decide) (by decide) rfl) rfl rfl (Nat.le_of_ble_eq_true rfl) h (fun x_2 V_1 h => ?_)
  refine go_if_eq (tgt := 170) dX7_takesE_162 (by decide) (fun c_5 => ?_) (fun c_5 => ?_)
  · have h := h.1 c_5
    refine go_iconst (v := 0) dX7_takesE_170 (by decide) ?_
    exact go_bret rfl dX7_takesE_171 (by decide) h
  · have h := h.2 c_5
    refine go_iconst (v := 0) dX7_takesE_165 (by decide) ?_
    refine go_istore_n (al1 := [(3, aI 0), (0, aR 24 0), (1, aI x1), (2, aI x2)]) dX7_takesE_166 rfl (by decide) rfl ?_
    refine go_goto (tgt := 172) dX7_takesE_167 (by decide) ?_
    refine go_aload_n (q := 1) dX7_takesE_172 rfl rfl ?_
    refine go_cVI (As := []) (st := []) (r := 24) (i := 0) mv_X7_notsOpen dX7_takesE_173 ml_X7_239 (hr_Kp (Nat.le_refl d)) rfl rfl (mM (by decide) (by decide) rfl) rfl rfl (Nat.le_of_ble_eq_true rfl) h (fun x_4 V_3 h => ?_)
    refine go_istore_n (al1 := [(2, aI x_4), (3, aI 0), (0, aR 24 0), (1, aI x1)]) dX7_takesE_176 rfl (by decide) rfl ?_
    refine go_goto (tgt := 28) dX7_takesE_177 (by decide) ?_
    refine go_sub (al1 := [(0, aR 24 0), (1, aI x1), (2, aI x_4), (3, aI 0)]) [2, 3, 0, 1] rfl ?_
    exact hk28 x1 x_4 0  V_3 h
def wpX7_takesE_97 (C : CT) (I28 : Int32 → Int32 → Int32 → Mem → Prop)  (x1 : Int32) (x2 : Int32) (x3 : Int32) (V : Mem) (Q : Option AV → Mem → Prop) : Prop :=
  ((¬ (V 24 0 9) = 3 → wpX7_takesE_158 C I28  x1 x2 x3 V Q) ∧ ((V 24 0 9) = 3 → ((¬ (V 24 0 10) = 40 → wpX7_takesE_158 C I28  x1 x2 x3 V Q) ∧ ((V 24 0 10) = 40 → ((8 ≤ x1 → wpX7_takesE_158 C I28  x1 x2 x3 V Q) ∧ (¬ 8 ≤ x1 → (∃ j_1 : Nat, (V 24 0 19) = nI j_1 ∧ j_1 < 96 ∧ (∀ V_2 : Mem, V_2 = mu V 33 0 j_1 (-11) → (∀ V_3 : Mem, V_3 = mu V_2 24 0 19 ((V_2 24 0 19) + 1) → (∃ j_4 : Nat, x1 + 1 = nI j_4 ∧ j_4 < 10 ∧ (∀ V_5 : Mem, V_5 = mu V_3 34 0 j_4 0 → (cV C mX7_go [aR 24 0] V_5 (fun V_6 => (cI C mX7_notsOpen [aR 24 0] V_6 (fun x_8 V_7 => I28 (x1 + 1) x_8 x3 V_7)))))))))))))))
set_option maxRecDepth 10000 in
theorem okX7_takesE_97 {d : Nat} {P : Option AV → Mem → Prop} {I28 : Int32 → Int32 → Int32 → Mem → Prop}   (x1 : Int32) (x2 : Int32) (x3 : Int32)  (V : Mem) (hk28 : ∀ (x1 : Int32) (x2 : Int32) (x3 : Int32), ∀ (V : Mem), I28 x1 x2 x3 V → Gq (Kp (d + 1) mX7_takesE UM P) UM cX7_takesE 5 RX7 28 [(0, aR 24 0), (1, aI x1), (2, aI x2), (3, aI x3)] [] V) (h : wpX7_takesE_97 (Cl UM d) I28  x1 x2 x3 V P) : Gq (Kp (d + 1) mX7_takesE UM P) UM cX7_takesE 5 RX7 97 [(0, aR 24 0), (1, aI x1), (2, aI x2), (3, aI x3)] [] V := by
  unfold wpX7_takesE_97 at h
  refine go_aload_n (q := 0) dX7_takesE_97 rfl rfl ?_
  refine go_geti fg_X7_198 dX7_takesE_98 (mM (by decide) (by decide) rfl) ?_
  refine go_iconst (v := 3) dX7_takesE_101 (by decide) ?_
  refine go_icmp_ne (tgt := 158) dX7_takesE_102 (by decide) (fun c_11 => ?_) (fun c_11 => ?_)
  · have h := h.1 c_11
    exact okX7_takesE_158   x1 x2 x3  V hk28 h
  · have h := h.2 c_11
    refine go_aload_n (q := 0) dX7_takesE_105 rfl rfl ?_
    refine go_geti fg_X7_204 dX7_takesE_106 (mM (by decide) (by decide) rfl) ?_
    refine go_bipush (v := 40) dX7_takesE_109 (by decide) ?_
    refine go_icmp_ne (tgt := 158) dX7_takesE_111 (by decide) (fun c_10 => ?_) (fun c_10 => ?_)
    · have h := h.1 c_10
      exact okX7_takesE_158   x1 x2 x3  V hk28 h
    · have h := h.2 c_10
      refine go_iload_n (q := 1) dX7_takesE_114 rfl rfl ?_
      refine go_bipush (v := 8) dX7_takesE_115 (by decide) ?_
      refine go_icmp_ge (tgt := 158) dX7_takesE_117 (by decide) (fun c_9 => ?_) (fun c_9 => ?_)
      · have h := h.1 c_9
        exact okX7_takesE_158   x1 x2 x3  V hk28 h
      · have h := h.2 c_9
        refine go_aload_n (q := 0) dX7_takesE_120 rfl rfl ?_
        refine go_getr fg_X7_35 dX7_takesE_121 (mM (by decide) (by decide) rfl) ?_
        refine go_aload_n (q := 0) dX7_takesE_124 rfl rfl ?_
        refine go_geti fg_X7_216 dX7_takesE_125 (mM (by decide) (by decide) rfl) ?_
        refine go_bipush (v := (-11)) dX7_takesE_128 (by decide) ?_
        obtain ⟨j_1, e_j_1, l_j_1, h⟩ := h
        refine go_iast (r := 33) (n := 96) (j := j_1) rfl (by decide) dX7_takesE_130 (mM (by decide) (by decide) rfl) e_j_1 l_j_1 ?_
        refine nmV (fun V_2 e_V_2 => ?_)
        have h := h V_2 e_V_2
        refine go_aload_n (q := 0) dX7_takesE_131 rfl rfl ?_
        refine go_dup dX7_takesE_132 rfl ?_
        refine go_geti fg_X7_216 dX7_takesE_133 (mM (by decide) (by decide) rfl) ?_
        refine go_iconst (v := 1) dX7_takesE_136 (by decide) ?_
        refine go_iadd dX7_takesE_137 ?_
        refine go_puti fp_X7_216 dX7_takesE_138 (mM (by decide) (by decide) rfl) ?_
        refine nmV (fun V_3 e_V_3 => ?_)
        have h := h V_3 e_V_3
        refine go_iinc (q := 1) (y := 1) (al1 := [(1, aI (x1 + 1)), (0, aR 24 0), (2, aI x2), (3, aI x3)]) dX7_takesE_141 rfl (by decide) (by decide) rfl ?_
        refine go_aload_n (q := 1) dX7_takesE_144 rfl rfl ?_
        refine go_getr fg_X7_38 dX7_takesE_145 (mM (by decide) (by decide) rfl) ?_
        refine go_iload_n (q := 0) dX7_takesE_148 rfl rfl ?_
        refine go_iconst (v := 0) dX7_takesE_149 (by decide) ?_
        obtain ⟨j_4, e_j_4, l_j_4, h⟩ := h
        refine go_zast (r := 34) (n := 10) (j := j_4) rfl (by decide) dX7_takesE_150 (mM (by decide) (by decide) rfl) e_j_4 l_j_4 (by decide) ?_
        refine nmV (fun V_5 e_V_5 => ?_)
        have h := h V_5 e_V_5
        refine go_aload_n (q := 1) dX7_takesE_151 rfl rfl ?_
        refine go_cVV (As := []) (st := []) (r := 24) (i := 0) mv_X7_go dX7_takesE_152 ml_X7_213 (hr_Kp (Nat.le_refl d)) rfl rfl (mM (by decide) (by decide) rfl) rfl rfl (Nat.le_of_ble_eq_true rfl) h (fun V_6 h => ?_)
        refine go_goto (tgt := 172) dX7_takesE_155 (by decide) ?_
        refine go_aload_n (q := 1) dX7_takesE_172 rfl rfl ?_
        refine go_cVI (As := []) (st := []) (r := 24) (i := 0) mv_X7_notsOpen dX7_takesE_173 ml_X7_239 (hr_Kp (Nat.le_refl d)) rfl rfl (mM (by decide) (by decide) rfl) rfl rfl (Nat.le_of_ble_eq_true rfl) h (fun x_8 V_7 h => ?_)
        refine go_istore_n (al1 := [(2, aI x_8), (1, aI (x1 + 1)), (0, aR 24 0), (3, aI x3)]) dX7_takesE_176 rfl (by decide) rfl ?_
        refine go_goto (tgt := 28) dX7_takesE_177 (by decide) ?_
        refine go_sub (al1 := [(0, aR 24 0), (1, aI (x1 + 1)), (2, aI x_8), (3, aI x3)]) [2, 1, 0, 3] rfl ?_
        exact hk28 (x1 + 1) x_8 x3  V_7 h
def wpX7_takesE_39 (C : CT) (I28 : Int32 → Int32 → Int32 → Mem → Prop)  (x1 : Int32) (x2 : Int32) (x3 : Int32) (V : Mem) (Q : Option AV → Mem → Prop) : Prop :=
  ((x3 = 0 → ((¬ (V 24 0 9) = 3 → wpX7_takesE_237 C I28  x1 x2 x3 V Q) ∧ ((V 24 0 9) = 3 → ((¬ (V 24 0 10) = 41 → wpX7_takesE_237 C I28  x1 x2 x3 V Q) ∧ ((V 24 0 10) = 41 → ((x1 ≤ 0 → wpX7_takesE_237 C I28  x1 x2 x3 V Q) ∧ (¬ x1 ≤ 0 → (cV C mX7_settle [aR 24 0, aI 0] V (fun V_1 => (∀ V_2 : Mem, V_2 = mu V_1 24 0 19 ((V_1 24 0 19) - 1) → (cV C mX7_settle [aR 24 0, aI 6] V_2 (fun V_3 => (cI C mX7_notsOpen [aR 24 0] V_3 (fun x_5 V_4 => (cV C mX7_go [aR 24 0] V_4 (fun V_6 => I28 (x1 + (-1)) x_5 x3 V_6)))))))))))))))) ∧ (¬ x3 = 0 → ((¬ (V 24 0 9) = 3 → wpX7_takesE_97 C I28  x1 x2 x3 V Q) ∧ ((V 24 0 9) = 3 → ((¬ (V 24 0 10) = 33 → wpX7_takesE_97 C I28  x1 x2 x3 V Q) ∧ ((V 24 0 10) = 33 → ((8 ≤ x2 → wpX7_takesE_97 C I28  x1 x2 x3 V Q) ∧ (¬ 8 ≤ x2 → (∃ j_10 : Nat, (V 24 0 19) = nI j_10 ∧ j_10 < 96 ∧ (∀ V_11 : Mem, V_11 = mu V 33 0 j_10 (-10) → (∀ V_12 : Mem, V_12 = mu V_11 24 0 19 ((V_11 24 0 19) + 1) → (cV C mX7_go [aR 24 0] V_12 (fun V_13 => (cI C mX7_notsOpen [aR 24 0] V_13 (fun x_15 V_14 => I28 x1 x_15 x3 V_14)))))))))))))))
set_option maxRecDepth 10000 in
theorem okX7_takesE_39 {d : Nat} {P : Option AV → Mem → Prop} {I28 : Int32 → Int32 → Int32 → Mem → Prop}   (x1 : Int32) (x2 : Int32) (x3 : Int32)  (V : Mem) (hk28 : ∀ (x1 : Int32) (x2 : Int32) (x3 : Int32), ∀ (V : Mem), I28 x1 x2 x3 V → Gq (Kp (d + 1) mX7_takesE UM P) UM cX7_takesE 5 RX7 28 [(0, aR 24 0), (1, aI x1), (2, aI x2), (3, aI x3)] [] V) (h : wpX7_takesE_39 (Cl UM d) I28  x1 x2 x3 V P) : Gq (Kp (d + 1) mX7_takesE UM P) UM cX7_takesE 5 RX7 39 [(0, aR 24 0), (1, aI x1), (2, aI x2), (3, aI x3)] [] V := by
  unfold wpX7_takesE_39 at h
  refine go_iload_n (q := 3) dX7_takesE_39 rfl rfl ?_
  refine go_if_eq (tgt := 180) dX7_takesE_40 (by decide) (fun c_19 => ?_) (fun c_19 => ?_)
  · have h := h.1 c_19
    refine go_aload_n (q := 0) dX7_takesE_180 rfl rfl ?_
    refine go_geti fg_X7_198 dX7_takesE_181 (mM (by decide) (by decide) rfl) ?_
    refine go_iconst (v := 3) dX7_takesE_184 (by decide) ?_
    refine go_icmp_ne (tgt := 237) dX7_takesE_185 (by decide) (fun c_9 => ?_) (fun c_9 => ?_)
    · have h := h.1 c_9
      exact okX7_takesE_237   x1 x2 x3  V hk28 h
    · have h := h.2 c_9
      refine go_aload_n (q := 0) dX7_takesE_188 rfl rfl ?_
      refine go_geti fg_X7_204 dX7_takesE_189 (mM (by decide) (by decide) rfl) ?_
      refine go_bipush (v := 41) dX7_takesE_192 (by decide) ?_
      refine go_icmp_ne (tgt := 237) dX7_takesE_194 (by decide) (fun c_8 => ?_) (fun c_8 => ?_)
      · have h := h.1 c_8
        exact okX7_takesE_237   x1 x2 x3  V hk28 h
      · have h := h.2 c_8
        refine go_iload_n (q := 1) dX7_takesE_197 rfl rfl ?_
        refine go_if_le (tgt := 237) dX7_takesE_198 (by decide) (fun c_7 => ?_) (fun c_7 => ?_)
        · have h := h.1 c_7
          exact okX7_takesE_237   x1 x2 x3  V hk28 h
        · have h := h.2 c_7
          refine go_aload_n (q := 0) dX7_takesE_201 rfl rfl ?_
          refine go_iconst (v := 0) dX7_takesE_202 (by decide) ?_
          refine go_cVV (As := [aI 0]) (st := []) (r := 24) (i := 0) mv_X7_settle dX7_takesE_203 ml_X7_231 (hr_Kp (Nat.le_refl d)) rfl rfl (mM (by decide) (by decide) rfl) rfl rfl (Nat.le_of_ble_eq_true rfl) h (fun V_1 h => ?_)
          refine go_aload_n (q := 0) dX7_takesE_206 rfl rfl ?_
          refine go_dup dX7_takesE_207 rfl ?_
          refine go_geti fg_X7_216 dX7_takesE_208 (mM (by decide) (by decide) rfl) ?_
          refine go_iconst (v := 1) dX7_takesE_211 (by decide) ?_
          refine go_isub dX7_takesE_212 ?_
          refine go_puti fp_X7_216 dX7_takesE_213 (mM (by decide) (by decide) rfl) ?_
          refine nmV (fun V_2 e_V_2 => ?_)
          have h := h V_2 e_V_2
          refine go_iinc (q := 1) (y := (-1)) (al1 := [(1, aI (x1 + (-1))), (0, aR 24 0), (2, aI x2), (3, aI x3)]) dX7_takesE_216 rfl (by decide) (by decide) rfl ?_
          refine go_aload_n (q := 1) dX7_takesE_219 rfl rfl ?_
          refine go_bipush (v := 6) dX7_takesE_220 (by decide) ?_
          refine go_cVV (As := [aI 6]) (st := []) (r := 24) (i := 0) mv_X7_settle dX7_takesE_222 ml_X7_231 (hr_Kp (Nat.le_refl d)) rfl rfl (mM (by decide) (by decide) rfl) rfl rfl (Nat.le_of_ble_eq_true rfl) h (fun V_3 h => ?_)
          refine go_aload_n (q := 1) dX7_takesE_225 rfl rfl ?_
          refine go_cVI (As := []) (st := []) (r := 24) (i := 0) mv_X7_notsOpen dX7_takesE_226 ml_X7_239 (hr_Kp (Nat.le_refl d)) rfl rfl (mM (by decide) (by decide) rfl) rfl rfl (Nat.le_of_ble_eq_true rfl) h (fun x_5 V_4 h => ?_)
          refine go_istore_n (al1 := [(2, aI x_5), (1, aI (x1 + (-1))), (0, aR 24 0), (3, aI x3)]) dX7_takesE_229 rfl (by decide) rfl ?_
          refine go_aload_n (q := 2) dX7_takesE_230 rfl rfl ?_
          refine go_cVV (As := []) (st := []) (r := 24) (i := 0) mv_X7_go dX7_takesE_231 ml_X7_213 (hr_Kp (Nat.le_refl d)) rfl rfl (mM (by decide) (by decide) rfl) rfl rfl (Nat.le_of_ble_eq_true rfl) h (fun V_6 h => ?_)
          refine go_goto (tgt := 28) dX7_takesE_234 (by decide) ?_
          refine go_sub (al1 := [(0, aR 24 0), (1, aI (x1 + (-1))), (2, aI x_5), (3, aI x3)]) [2, 1, 0, 3] rfl ?_
          exact hk28 (x1 + (-1)) x_5 x3  V_6 h
  · have h := h.2 c_19
    refine go_aload_n (q := 0) dX7_takesE_43 rfl rfl ?_
    refine go_geti fg_X7_198 dX7_takesE_44 (mM (by decide) (by decide) rfl) ?_
    refine go_iconst (v := 3) dX7_takesE_47 (by decide) ?_
    refine go_icmp_ne (tgt := 97) dX7_takesE_48 (by decide) (fun c_18 => ?_) (fun c_18 => ?_)
    · have h := h.1 c_18
      exact okX7_takesE_97   x1 x2 x3  V hk28 h
    · have h := h.2 c_18
      refine go_aload_n (q := 0) dX7_takesE_51 rfl rfl ?_
      refine go_geti fg_X7_204 dX7_takesE_52 (mM (by decide) (by decide) rfl) ?_
      refine go_bipush (v := 33) dX7_takesE_55 (by decide) ?_
      refine go_icmp_ne (tgt := 97) dX7_takesE_57 (by decide) (fun c_17 => ?_) (fun c_17 => ?_)
      · have h := h.1 c_17
        exact okX7_takesE_97   x1 x2 x3  V hk28 h
      · have h := h.2 c_17
        refine go_iload_n (q := 2) dX7_takesE_60 rfl rfl ?_
        refine go_bipush (v := 8) dX7_takesE_61 (by decide) ?_
        refine go_icmp_ge (tgt := 97) dX7_takesE_63 (by decide) (fun c_16 => ?_) (fun c_16 => ?_)
        · have h := h.1 c_16
          exact okX7_takesE_97   x1 x2 x3  V hk28 h
        · have h := h.2 c_16
          refine go_aload_n (q := 0) dX7_takesE_66 rfl rfl ?_
          refine go_getr fg_X7_35 dX7_takesE_67 (mM (by decide) (by decide) rfl) ?_
          refine go_aload_n (q := 0) dX7_takesE_70 rfl rfl ?_
          refine go_geti fg_X7_216 dX7_takesE_71 (mM (by decide) (by decide) rfl) ?_
          refine go_bipush (v := (-10)) dX7_takesE_74 (by decide) ?_
          obtain ⟨j_10, e_j_10, l_j_10, h⟩ := h
          refine go_iast (r := 33) (n := 96) (j := j_10) rfl (by decide) dX7_takesE_76 (mM (by decide) (by decide) rfl) e_j_10 l_j_10 ?_
          refine nmV (fun V_11 e_V_11 => ?_)
          have h := h V_11 e_V_11
          refine go_aload_n (q := 0) dX7_takesE_77 rfl rfl ?_
          refine go_dup dX7_takesE_78 rfl ?_
          refine go_geti fg_X7_216 dX7_takesE_79 (mM (by decide) (by decide) rfl) ?_
          refine go_iconst (v := 1) dX7_takesE_82 (by decide) ?_
          refine go_iadd dX7_takesE_83 ?_
          refine go_puti fp_X7_216 dX7_takesE_84 (mM (by decide) (by decide) rfl) ?_
          refine nmV (fun V_12 e_V_12 => ?_)
          have h := h V_12 e_V_12
          refine go_iinc (q := 2) (y := 1) (al1 := [(2, aI (x2 + 1)), (0, aR 24 0), (1, aI x1), (3, aI x3)]) dX7_takesE_87 rfl (by decide) (by decide) rfl ?_
          refine go_aload_n (q := 1) dX7_takesE_90 rfl rfl ?_
          refine go_cVV (As := []) (st := []) (r := 24) (i := 0) mv_X7_go dX7_takesE_91 ml_X7_213 (hr_Kp (Nat.le_refl d)) rfl rfl (mM (by decide) (by decide) rfl) rfl rfl (Nat.le_of_ble_eq_true rfl) h (fun V_13 h => ?_)
          refine go_goto (tgt := 172) dX7_takesE_94 (by decide) ?_
          refine go_aload_n (q := 1) dX7_takesE_172 rfl rfl ?_
          refine go_cVI (As := []) (st := []) (r := 24) (i := 0) mv_X7_notsOpen dX7_takesE_173 ml_X7_239 (hr_Kp (Nat.le_refl d)) rfl rfl (mM (by decide) (by decide) rfl) rfl rfl (Nat.le_of_ble_eq_true rfl) h (fun x_15 V_14 h => ?_)
          refine go_istore_n (al1 := [(2, aI x_15), (0, aR 24 0), (1, aI x1), (3, aI x3)]) dX7_takesE_176 rfl (by decide) rfl ?_
          refine go_goto (tgt := 28) dX7_takesE_177 (by decide) ?_
          refine go_sub (al1 := [(0, aR 24 0), (1, aI x1), (2, aI x_15), (3, aI x3)]) [1, 2, 0, 3] rfl ?_
          exact hk28 x1 x_15 x3  V_14 h
def wpX7_takesE_28 (C : CT) (I28 : Int32 → Int32 → Int32 → Mem → Prop)  (x1 : Int32) (x2 : Int32) (x3 : Int32) (V : Mem) (Q : Option AV → Mem → Prop) : Prop :=
  ((¬ x3 = 0 → wpX7_takesE_39 C I28  x1 x2 x3 V Q) ∧ (x3 = 0 → (((V 24 0 9) = 0 → (cV C mX7_settle [aR 24 0, aI 0] V (fun V_1 => ((¬ x1 = 0 → Q (some (aI 0)) V_1) ∧ (x1 = 0 → Q (some (aI 1)) V_1))))) ∧ (¬ (V 24 0 9) = 0 → wpX7_takesE_39 C I28  x1 x2 x3 V Q))))
set_option maxRecDepth 10000 in
theorem okX7_takesE_28 {d : Nat} {P : Option AV → Mem → Prop} {I28 : Int32 → Int32 → Int32 → Mem → Prop}   (x1 : Int32) (x2 : Int32) (x3 : Int32)  (V : Mem) (hk28 : ∀ (x1 : Int32) (x2 : Int32) (x3 : Int32), ∀ (V : Mem), I28 x1 x2 x3 V → Gq (Kp (d + 1) mX7_takesE UM P) UM cX7_takesE 5 RX7 28 [(0, aR 24 0), (1, aI x1), (2, aI x2), (3, aI x3)] [] V) (h : wpX7_takesE_28 (Cl UM d) I28  x1 x2 x3 V P) : Gq (Kp (d + 1) mX7_takesE UM P) UM cX7_takesE 5 RX7 28 [(0, aR 24 0), (1, aI x1), (2, aI x2), (3, aI x3)] [] V := by
  unfold wpX7_takesE_28 at h
  refine go_iload_n (q := 3) dX7_takesE_28 rfl rfl ?_
  refine go_if_ne (tgt := 39) dX7_takesE_29 (by decide) (fun c_4 => ?_) (fun c_4 => ?_)
  · have h := h.1 c_4
    exact okX7_takesE_39   x1 x2 x3  V hk28 h
  · have h := h.2 c_4
    refine go_aload_n (q := 0) dX7_takesE_32 rfl rfl ?_
    refine go_geti fg_X7_198 dX7_takesE_33 (mM (by decide) (by decide) rfl) ?_
    refine go_if_eq (tgt := 345) dX7_takesE_36 (by decide) (fun c_3 => ?_) (fun c_3 => ?_)
    · have h := h.1 c_3
      refine go_aload_n (q := 0) dX7_takesE_345 rfl rfl ?_
      refine go_iconst (v := 0) dX7_takesE_346 (by decide) ?_
      refine go_cVV (As := [aI 0]) (st := []) (r := 24) (i := 0) mv_X7_settle dX7_takesE_347 ml_X7_231 (hr_Kp (Nat.le_refl d)) rfl rfl (mM (by decide) (by decide) rfl) rfl rfl (Nat.le_of_ble_eq_true rfl) h (fun V_1 h => ?_)
      refine go_iload_n (q := 1) dX7_takesE_350 rfl rfl ?_
      refine go_if_ne (tgt := 358) dX7_takesE_351 (by decide) (fun c_2 => ?_) (fun c_2 => ?_)
      · have h := h.1 c_2
        refine go_iconst (v := 0) dX7_takesE_358 (by decide) ?_
        exact go_bret rfl dX7_takesE_359 (by decide) h
      · have h := h.2 c_2
        refine go_iconst (v := 1) dX7_takesE_354 (by decide) ?_
        refine go_goto (tgt := 359) dX7_takesE_355 (by decide) ?_
        exact go_bret rfl dX7_takesE_359 (by decide) h
    · have h := h.2 c_3
      exact okX7_takesE_39   x1 x2 x3  V hk28 h
def wpX7_takesE_0 (C : CT) (I28 : Int32 → Int32 → Int32 → Mem → Prop)   (V : Mem) (Q : Option AV → Mem → Prop) : Prop :=
  (∀ V_1 : Mem, V_1 = mu V 24 0 16 0 → (∀ V_2 : Mem, V_2 = mu V_1 24 0 17 0 → (∀ V_3 : Mem, V_3 = mu V_2 24 0 19 0 → (∀ V_4 : Mem, V_4 = mu V_3 34 0 0 0 → I28 0 0 1 V_4))))
set_option maxRecDepth 10000 in
theorem okX7_takesE_0 {d : Nat} {P : Option AV → Mem → Prop} {I28 : Int32 → Int32 → Int32 → Mem → Prop}     (V : Mem) (hk28 : ∀ (x1 : Int32) (x2 : Int32) (x3 : Int32), ∀ (V : Mem), I28 x1 x2 x3 V → Gq (Kp (d + 1) mX7_takesE UM P) UM cX7_takesE 5 RX7 28 [(0, aR 24 0), (1, aI x1), (2, aI x2), (3, aI x3)] [] V) (h : wpX7_takesE_0 (Cl UM d) I28   V P) : Gq (Kp (d + 1) mX7_takesE UM P) UM cX7_takesE 5 RX7 0 [(0, aR 24 0)] [] V := by
  unfold wpX7_takesE_0 at h
  refine go_iconst (v := 0) dX7_takesE_0 (by decide) ?_
  refine go_istore_n (al1 := [(1, aI 0), (0, aR 24 0)]) dX7_takesE_1 rfl (by decide) rfl ?_
  refine go_iconst (v := 0) dX7_takesE_2 (by decide) ?_
  refine go_istore_n (al1 := [(2, aI 0), (1, aI 0), (0, aR 24 0)]) dX7_takesE_3 rfl (by decide) rfl ?_
  refine go_iconst (v := 1) dX7_takesE_4 (by decide) ?_
  refine go_istore_n (al1 := [(3, aI 1), (2, aI 0), (1, aI 0), (0, aR 24 0)]) dX7_takesE_5 rfl (by decide) rfl ?_
  refine go_aload_n (q := 3) dX7_takesE_6 rfl rfl ?_
  refine go_iconst (v := 0) dX7_takesE_7 (by decide) ?_
  refine go_puti fp_X7_222 dX7_takesE_8 (mM (by decide) (by decide) rfl) ?_
  refine nmV (fun V_1 e_V_1 => ?_)
  have h := h V_1 e_V_1
  refine go_aload_n (q := 3) dX7_takesE_11 rfl rfl ?_
  refine go_iconst (v := 0) dX7_takesE_12 (by decide) ?_
  refine go_puti fp_X7_228 dX7_takesE_13 (mM (by decide) (by decide) rfl) ?_
  refine nmV (fun V_2 e_V_2 => ?_)
  have h := h V_2 e_V_2
  refine go_aload_n (q := 3) dX7_takesE_16 rfl rfl ?_
  refine go_iconst (v := 0) dX7_takesE_17 (by decide) ?_
  refine go_puti fp_X7_216 dX7_takesE_18 (mM (by decide) (by decide) rfl) ?_
  refine nmV (fun V_3 e_V_3 => ?_)
  have h := h V_3 e_V_3
  refine go_aload_n (q := 3) dX7_takesE_21 rfl rfl ?_
  refine go_getr fg_X7_38 dX7_takesE_22 (mM (by decide) (by decide) rfl) ?_
  refine go_iconst (v := 0) dX7_takesE_25 (by decide) ?_
  refine go_iconst (v := 0) dX7_takesE_26 (by decide) ?_
  refine go_zast (r := 34) (n := 10) (j := 0) rfl (by decide) dX7_takesE_27 (mM (by decide) (by decide) rfl) (by decide) (by decide) (by decide) ?_
  refine nmV (fun V_4 e_V_4 => ?_)
  have h := h V_4 e_V_4
  refine go_sub (al1 := [(0, aR 24 0), (1, aI 0), (2, aI 0), (3, aI 1)]) [3, 2, 1, 0] rfl ?_
  exact hk28 0 0 1  V_4 h
theorem clX7_takesE {d : Nat} {P : Option AV → Mem → Prop} {I28 : Int32 → Int32 → Int32 → Mem → Prop}    (V : Mem) (hk28 : ∀ (x1 : Int32) (x2 : Int32) (x3 : Int32), ∀ (V : Mem), I28 x1 x2 x3 V → Gq (Kp (d + 1) mX7_takesE UM P) UM cX7_takesE 5 RX7 28 [(0, aR 24 0), (1, aI x1), (2, aI x2), (3, aI x3)] [] V) (h : wpX7_takesE_0 (Cl UM d) I28   V P) : Cl UM (d + 1) mX7_takesE [aR 24 0] V P :=
  cl_of [(0, aR 24 0)] (by decide) (fun _ => Nat.le_of_ble_eq_true rfl) (fun _ => rfl) (okX7_takesE_0    V hk28 h)
theorem dX7_notsOpen_0 : decode cX7_notsOpen 0 = .ok (.iconst 0, 1) := by decide +kernel
theorem dX7_notsOpen_1 : decode cX7_notsOpen 1 = .ok (.istore_n 1, 1) := by decide +kernel
theorem dX7_notsOpen_2 : decode cX7_notsOpen 2 = .ok (.iconst 0, 1) := by decide +kernel
theorem dX7_notsOpen_3 : decode cX7_notsOpen 3 = .ok (.istore_n 2, 1) := by decide +kernel
theorem dX7_notsOpen_4 : decode cX7_notsOpen 4 = .ok (.iload_n 2, 1) := by decide +kernel
theorem dX7_notsOpen_5 : decode cX7_notsOpen 5 = .ok (.aload_n 0, 1) := by decide +kernel
theorem dX7_notsOpen_6 : decode cX7_notsOpen 6 = .ok (.getfield 216, 3) := by decide +kernel
theorem dX7_notsOpen_9 : decode cX7_notsOpen 9 = .ok (.if_icmp .ge 28, 3) := by decide +kernel
theorem dX7_notsOpen_12 : decode cX7_notsOpen 12 = .ok (.iload_n 1, 1) := by decide +kernel
theorem dX7_notsOpen_13 : decode cX7_notsOpen 13 = .ok (.aload_n 0, 1) := by decide +kernel
theorem dX7_notsOpen_14 : decode cX7_notsOpen 14 = .ok (.getfield 35, 3) := by decide +kernel
theorem dX7_notsOpen_17 : decode cX7_notsOpen 17 = .ok (.iload_n 2, 1) := by decide +kernel
theorem dX7_notsOpen_18 : decode cX7_notsOpen 18 = .ok (.iaload, 1) := by decide +kernel
theorem dX7_notsOpen_19 : decode cX7_notsOpen 19 = .ok (.bipush (-10), 2) := by decide +kernel
theorem dX7_notsOpen_21 : decode cX7_notsOpen 21 = .ok (.if_icmp .ne 7, 3) := by decide +kernel
theorem dX7_notsOpen_24 : decode cX7_notsOpen 24 = .ok (.iconst 1, 1) := by decide +kernel
theorem dX7_notsOpen_25 : decode cX7_notsOpen 25 = .ok (.goto 4, 3) := by decide +kernel
theorem dX7_notsOpen_28 : decode cX7_notsOpen 28 = .ok (.iconst 0, 1) := by decide +kernel
theorem dX7_notsOpen_29 : decode cX7_notsOpen 29 = .ok (.iadd, 1) := by decide +kernel
theorem dX7_notsOpen_30 : decode cX7_notsOpen 30 = .ok (.istore_n 1, 1) := by decide +kernel
theorem dX7_notsOpen_31 : decode cX7_notsOpen 31 = .ok (.iinc 2 1, 3) := by decide +kernel
theorem dX7_notsOpen_34 : decode cX7_notsOpen 34 = .ok (.goto (-30), 3) := by decide +kernel
theorem dX7_notsOpen_37 : decode cX7_notsOpen 37 = .ok (.iload_n 1, 1) := by decide +kernel
theorem dX7_notsOpen_38 : decode cX7_notsOpen 38 = .ok (.ireturn, 1) := by decide +kernel
def wpX7_notsOpen_4 (C : CT) (I4 : Int32 → Int32 → Mem → Prop)  (x1 : Int32) (x2 : Int32) (V : Mem) (Q : Option AV → Mem → Prop) : Prop :=
  (((V 24 0 19) ≤ x2 → Q (some (aI x1)) V) ∧ (¬ (V 24 0 19) ≤ x2 → (∃ j_1 : Nat, x2 = nI j_1 ∧ j_1 < 96 ∧ ((¬ (V 33 0 j_1) = (-10) → (∀ z_2 : Int32, z_2 = (x1 + 0) → I4 z_2 (x2 + 1) V)) ∧ ((V 33 0 j_1) = (-10) → (∀ z_3 : Int32, z_3 = (x1 + 1) → I4 z_3 (x2 + 1) V))))))
set_option maxRecDepth 10000 in
theorem okX7_notsOpen_4 {d : Nat} {P : Option AV → Mem → Prop} {I4 : Int32 → Int32 → Mem → Prop}   (x1 : Int32) (x2 : Int32)  (V : Mem) (hk4 : ∀ (x1 : Int32) (x2 : Int32), ∀ (V : Mem), I4 x1 x2 V → Gq (Kp (d + 1) mX7_notsOpen UM P) UM cX7_notsOpen 3 RX7 4 [(0, aR 24 0), (1, aI x1), (2, aI x2)] [] V) (h : wpX7_notsOpen_4 (Cl UM d) I4  x1 x2 V P) : Gq (Kp (d + 1) mX7_notsOpen UM P) UM cX7_notsOpen 3 RX7 4 [(0, aR 24 0), (1, aI x1), (2, aI x2)] [] V := by
  unfold wpX7_notsOpen_4 at h
  refine go_iload_n (q := 2) dX7_notsOpen_4 rfl rfl ?_
  refine go_aload_n (q := 0) dX7_notsOpen_5 rfl rfl ?_
  refine go_geti fg_X7_216 dX7_notsOpen_6 (mM (by decide) (by decide) rfl) ?_
  refine go_icmp_ge (tgt := 37) dX7_notsOpen_9 (by decide) (fun c_5 => ?_) (fun c_5 => ?_)
  · have h := h.1 c_5
    refine go_iload_n (q := 1) dX7_notsOpen_37 rfl rfl ?_
    exact go_iret rfl dX7_notsOpen_38 h
  · have h := h.2 c_5
    refine go_iload_n (q := 1) dX7_notsOpen_12 rfl rfl ?_
    refine go_aload_n (q := 0) dX7_notsOpen_13 rfl rfl ?_
    refine go_getr fg_X7_35 dX7_notsOpen_14 (mM (by decide) (by decide) rfl) ?_
    refine go_iload_n (q := 2) dX7_notsOpen_17 rfl rfl ?_
    obtain ⟨j_1, e_j_1, l_j_1, h⟩ := h
    refine go_iald (r := 33) (n := 96) (j := j_1) rfl (by decide) dX7_notsOpen_18 (mM (by decide) (by decide) rfl) e_j_1 l_j_1 ?_
    refine go_bipush (v := (-10)) dX7_notsOpen_19 (by decide) ?_
    refine go_icmp_ne (tgt := 28) dX7_notsOpen_21 (by decide) (fun c_4 => ?_) (fun c_4 => ?_)
    · have h := h.1 c_4
      refine go_iconst (v := 0) dX7_notsOpen_28 (by decide) ?_
      refine go_iadd dX7_notsOpen_29 ?_
      refine nmI (fun z_2 e_z_2 => ?_)
      have h := h z_2 e_z_2
      refine go_istore_n (al1 := [(1, aI z_2), (0, aR 24 0), (2, aI x2)]) dX7_notsOpen_30 rfl (by decide) rfl ?_
      refine go_iinc (q := 2) (y := 1) (al1 := [(2, aI (x2 + 1)), (1, aI z_2), (0, aR 24 0)]) dX7_notsOpen_31 rfl (by decide) (by decide) rfl ?_
      refine go_goto (tgt := 4) dX7_notsOpen_34 (by decide) ?_
      refine go_sub (al1 := [(0, aR 24 0), (1, aI z_2), (2, aI (x2 + 1))]) [2, 1, 0] rfl ?_
      exact hk4 z_2 (x2 + 1)  V h
    · have h := h.2 c_4
      refine go_iconst (v := 1) dX7_notsOpen_24 (by decide) ?_
      refine go_goto (tgt := 29) dX7_notsOpen_25 (by decide) ?_
      refine go_iadd dX7_notsOpen_29 ?_
      refine nmI (fun z_3 e_z_3 => ?_)
      have h := h z_3 e_z_3
      refine go_istore_n (al1 := [(1, aI z_3), (0, aR 24 0), (2, aI x2)]) dX7_notsOpen_30 rfl (by decide) rfl ?_
      refine go_iinc (q := 2) (y := 1) (al1 := [(2, aI (x2 + 1)), (1, aI z_3), (0, aR 24 0)]) dX7_notsOpen_31 rfl (by decide) (by decide) rfl ?_
      refine go_goto (tgt := 4) dX7_notsOpen_34 (by decide) ?_
      refine go_sub (al1 := [(0, aR 24 0), (1, aI z_3), (2, aI (x2 + 1))]) [2, 1, 0] rfl ?_
      exact hk4 z_3 (x2 + 1)  V h
def wpX7_notsOpen_0 (C : CT) (I4 : Int32 → Int32 → Mem → Prop)   (V : Mem) (Q : Option AV → Mem → Prop) : Prop :=
  I4 0 0 V
set_option maxRecDepth 10000 in
theorem okX7_notsOpen_0 {d : Nat} {P : Option AV → Mem → Prop} {I4 : Int32 → Int32 → Mem → Prop}     (V : Mem) (hk4 : ∀ (x1 : Int32) (x2 : Int32), ∀ (V : Mem), I4 x1 x2 V → Gq (Kp (d + 1) mX7_notsOpen UM P) UM cX7_notsOpen 3 RX7 4 [(0, aR 24 0), (1, aI x1), (2, aI x2)] [] V) (h : wpX7_notsOpen_0 (Cl UM d) I4   V P) : Gq (Kp (d + 1) mX7_notsOpen UM P) UM cX7_notsOpen 3 RX7 0 [(0, aR 24 0)] [] V := by
  unfold wpX7_notsOpen_0 at h
  refine go_iconst (v := 0) dX7_notsOpen_0 (by decide) ?_
  refine go_istore_n (al1 := [(1, aI 0), (0, aR 24 0)]) dX7_notsOpen_1 rfl (by decide) rfl ?_
  refine go_iconst (v := 0) dX7_notsOpen_2 (by decide) ?_
  refine go_istore_n (al1 := [(2, aI 0), (1, aI 0), (0, aR 24 0)]) dX7_notsOpen_3 rfl (by decide) rfl ?_
  refine go_sub (al1 := [(0, aR 24 0), (1, aI 0), (2, aI 0)]) [2, 1, 0] rfl ?_
  exact hk4 0 0  V h
theorem clX7_notsOpen {d : Nat} {P : Option AV → Mem → Prop} {I4 : Int32 → Int32 → Mem → Prop}    (V : Mem) (hk4 : ∀ (x1 : Int32) (x2 : Int32), ∀ (V : Mem), I4 x1 x2 V → Gq (Kp (d + 1) mX7_notsOpen UM P) UM cX7_notsOpen 3 RX7 4 [(0, aR 24 0), (1, aI x1), (2, aI x2)] [] V) (h : wpX7_notsOpen_0 (Cl UM d) I4   V P) : Cl UM (d + 1) mX7_notsOpen [aR 24 0] V P :=
  cl_of [(0, aR 24 0)] (by decide) (fun _ => Nat.le_of_ble_eq_true rfl) (fun _ => rfl) (okX7_notsOpen_0    V hk4 h)
theorem dX7_text_0 : decode cX7_text 0 = .ok (.aload_n 0, 1) := by decide +kernel
theorem dX7_text_1 : decode cX7_text 1 = .ok (.iconst 0, 1) := by decide +kernel
theorem dX7_text_2 : decode cX7_text 2 = .ok (.putfield 189, 3) := by decide +kernel
theorem dX7_text_5 : decode cX7_text 5 = .ok (.aload_n 0, 1) := by decide +kernel
theorem dX7_text_6 : decode cX7_text 6 = .ok (.iconst (-1), 1) := by decide +kernel
theorem dX7_text_7 : decode cX7_text 7 = .ok (.putfield 195, 3) := by decide +kernel
theorem dX7_text_10 : decode cX7_text 10 = .ok (.aload_n 0, 1) := by decide +kernel
theorem dX7_text_11 : decode cX7_text 11 = .ok (.invokevirtual 213, 3) := by decide +kernel
theorem dX7_text_14 : decode cX7_text 14 = .ok (.aload_n 0, 1) := by decide +kernel
theorem dX7_text_15 : decode cX7_text 15 = .ok (.invokevirtual 245, 3) := by decide +kernel
theorem dX7_text_18 : decode cX7_text 18 = .ok (.ifCond .eq 14, 3) := by decide +kernel
theorem dX7_text_21 : decode cX7_text 21 = .ok (.aload_n 0, 1) := by decide +kernel
theorem dX7_text_22 : decode cX7_text 22 = .ok (.invokevirtual 248, 3) := by decide +kernel
theorem dX7_text_25 : decode cX7_text 25 = .ok (.ifCond .eq 7, 3) := by decide +kernel
theorem dX7_text_28 : decode cX7_text 28 = .ok (.iconst 1, 1) := by decide +kernel
theorem dX7_text_29 : decode cX7_text 29 = .ok (.goto 4, 3) := by decide +kernel
theorem dX7_text_32 : decode cX7_text 32 = .ok (.iconst 0, 1) := by decide +kernel
theorem dX7_text_33 : decode cX7_text 33 = .ok (.istore_n 1, 1) := by decide +kernel
theorem dX7_text_34 : decode cX7_text 34 = .ok (.aload_n 0, 1) := by decide +kernel
theorem dX7_text_35 : decode cX7_text 35 = .ok (.iconst 0, 1) := by decide +kernel
theorem dX7_text_36 : decode cX7_text 36 = .ok (.putfield 185, 3) := by decide +kernel
theorem dX7_text_39 : decode cX7_text 39 = .ok (.iload_n 1, 1) := by decide +kernel
theorem dX7_text_40 : decode cX7_text 40 = .ok (.ifCond .ne 11, 3) := by decide +kernel
theorem dX7_text_43 : decode cX7_text 43 = .ok (.bipush (-100), 2) := by decide +kernel
theorem dX7_text_45 : decode cX7_text 45 = .ok (.aload_n 0, 1) := by decide +kernel
theorem dX7_text_46 : decode cX7_text 46 = .ok (.getfield 192, 3) := by decide +kernel
theorem dX7_text_49 : decode cX7_text 49 = .ok (.isub, 1) := by decide +kernel
theorem dX7_text_50 : decode cX7_text 50 = .ok (.ireturn, 1) := by decide +kernel
theorem dX7_text_51 : decode cX7_text 51 = .ok (.aload_n 0, 1) := by decide +kernel
theorem dX7_text_52 : decode cX7_text 52 = .ok (.getfield 9, 3) := by decide +kernel
theorem dX7_text_55 : decode cX7_text 55 = .ok (.bipush 10, 2) := by decide +kernel
theorem dX7_text_57 : decode cX7_text 57 = .ok (.iaload, 1) := by decide +kernel
theorem dX7_text_58 : decode cX7_text 58 = .ok (.bipush 14, 2) := by decide +kernel
theorem dX7_text_60 : decode cX7_text 60 = .ok (.if_icmp .ne 6, 3) := by decide +kernel
theorem dX7_text_63 : decode cX7_text 63 = .ok (.ldc 85, 2) := by decide +kernel
theorem dX7_text_65 : decode cX7_text 65 = .ok (.ireturn, 1) := by decide +kernel
theorem dX7_text_66 : decode cX7_text 66 = .ok (.aload_n 0, 1) := by decide +kernel
theorem dX7_text_67 : decode cX7_text 67 = .ok (.getfield 9, 3) := by decide +kernel
theorem dX7_text_70 : decode cX7_text 70 = .ok (.bipush 10, 2) := by decide +kernel
theorem dX7_text_72 : decode cX7_text 72 = .ok (.iaload, 1) := by decide +kernel
theorem dX7_text_73 : decode cX7_text 73 = .ok (.istore_n 2, 1) := by decide +kernel
theorem dX7_text_74 : decode cX7_text 74 = .ok (.aload_n 0, 1) := by decide +kernel
theorem dX7_text_75 : decode cX7_text 75 = .ok (.getfield 9, 3) := by decide +kernel
theorem dX7_text_78 : decode cX7_text 78 = .ok (.bipush 107, 2) := by decide +kernel
theorem dX7_text_80 : decode cX7_text 80 = .ok (.iconst 2, 1) := by decide +kernel
theorem dX7_text_81 : decode cX7_text 81 = .ok (.iload_n 2, 1) := by decide +kernel
theorem dX7_text_82 : decode cX7_text 82 = .ok (.imul, 1) := by decide +kernel
theorem dX7_text_83 : decode cX7_text 83 = .ok (.iadd, 1) := by decide +kernel
theorem dX7_text_84 : decode cX7_text 84 = .ok (.sipush 1000, 3) := by decide +kernel
theorem dX7_text_87 : decode cX7_text 87 = .ok (.aload_n 0, 1) := by decide +kernel
theorem dX7_text_88 : decode cX7_text 88 = .ok (.getfield 210, 3) := by decide +kernel
theorem dX7_text_91 : decode cX7_text 91 = .ok (.imul, 1) := by decide +kernel
theorem dX7_text_92 : decode cX7_text 92 = .ok (.aload_n 0, 1) := by decide +kernel
theorem dX7_text_93 : decode cX7_text 93 = .ok (.getfield 222, 3) := by decide +kernel
theorem dX7_text_96 : decode cX7_text 96 = .ok (.iadd, 1) := by decide +kernel
theorem dX7_text_97 : decode cX7_text 97 = .ok (.iastore, 1) := by decide +kernel
theorem dX7_text_98 : decode cX7_text 98 = .ok (.aload_n 0, 1) := by decide +kernel
theorem dX7_text_99 : decode cX7_text 99 = .ok (.getfield 9, 3) := by decide +kernel
theorem dX7_text_102 : decode cX7_text 102 = .ok (.bipush 107, 2) := by decide +kernel
theorem dX7_text_104 : decode cX7_text 104 = .ok (.iconst 2, 1) := by decide +kernel
theorem dX7_text_105 : decode cX7_text 105 = .ok (.iload_n 2, 1) := by decide +kernel
theorem dX7_text_106 : decode cX7_text 106 = .ok (.imul, 1) := by decide +kernel
theorem dX7_text_107 : decode cX7_text 107 = .ok (.iadd, 1) := by decide +kernel
theorem dX7_text_108 : decode cX7_text 108 = .ok (.iconst 1, 1) := by decide +kernel
theorem dX7_text_109 : decode cX7_text 109 = .ok (.iadd, 1) := by decide +kernel
theorem dX7_text_110 : decode cX7_text 110 = .ok (.aload_n 0, 1) := by decide +kernel
theorem dX7_text_111 : decode cX7_text 111 = .ok (.getfield 228, 3) := by decide +kernel
theorem dX7_text_114 : decode cX7_text 114 = .ok (.iastore, 1) := by decide +kernel
theorem dX7_text_115 : decode cX7_text 115 = .ok (.iconst 0, 1) := by decide +kernel
theorem dX7_text_116 : decode cX7_text 116 = .ok (.istore_n 3, 1) := by decide +kernel
theorem dX7_text_117 : decode cX7_text 117 = .ok (.iload_n 3, 1) := by decide +kernel
theorem dX7_text_118 : decode cX7_text 118 = .ok (.aload_n 0, 1) := by decide +kernel
theorem dX7_text_119 : decode cX7_text 119 = .ok (.getfield 222, 3) := by decide +kernel
theorem dX7_text_122 : decode cX7_text 122 = .ok (.if_icmp .ge 30, 3) := by decide +kernel
theorem dX7_text_125 : decode cX7_text 125 = .ok (.aload_n 0, 1) := by decide +kernel
theorem dX7_text_126 : decode cX7_text 126 = .ok (.getfield 9, 3) := by decide +kernel
theorem dX7_text_129 : decode cX7_text 129 = .ok (.sipush 135, 3) := by decide +kernel
theorem dX7_text_132 : decode cX7_text 132 = .ok (.bipush 96, 2) := by decide +kernel
theorem dX7_text_134 : decode cX7_text 134 = .ok (.iload_n 2, 1) := by decide +kernel
theorem dX7_text_135 : decode cX7_text 135 = .ok (.imul, 1) := by decide +kernel
theorem dX7_text_136 : decode cX7_text 136 = .ok (.iadd, 1) := by decide +kernel
theorem dX7_text_137 : decode cX7_text 137 = .ok (.iload_n 3, 1) := by decide +kernel
theorem dX7_text_138 : decode cX7_text 138 = .ok (.iadd, 1) := by decide +kernel
theorem dX7_text_139 : decode cX7_text 139 = .ok (.aload_n 0, 1) := by decide +kernel
theorem dX7_text_140 : decode cX7_text 140 = .ok (.getfield 32, 3) := by decide +kernel
theorem dX7_text_143 : decode cX7_text 143 = .ok (.iload_n 3, 1) := by decide +kernel
theorem dX7_text_144 : decode cX7_text 144 = .ok (.iaload, 1) := by decide +kernel
theorem dX7_text_145 : decode cX7_text 145 = .ok (.iastore, 1) := by decide +kernel
theorem dX7_text_146 : decode cX7_text 146 = .ok (.iinc 3 1, 3) := by decide +kernel
theorem dX7_text_149 : decode cX7_text 149 = .ok (.goto (-32), 3) := by decide +kernel
theorem dX7_text_152 : decode cX7_text 152 = .ok (.aload_n 0, 1) := by decide +kernel
theorem dX7_text_153 : decode cX7_text 153 = .ok (.getfield 9, 3) := by decide +kernel
theorem dX7_text_156 : decode cX7_text 156 = .ok (.bipush 10, 2) := by decide +kernel
theorem dX7_text_158 : decode cX7_text 158 = .ok (.dup2, 1) := by decide +kernel
theorem dX7_text_159 : decode cX7_text 159 = .ok (.iaload, 1) := by decide +kernel
theorem dX7_text_160 : decode cX7_text 160 = .ok (.iconst 1, 1) := by decide +kernel
theorem dX7_text_161 : decode cX7_text 161 = .ok (.iadd, 1) := by decide +kernel
theorem dX7_text_162 : decode cX7_text 162 = .ok (.iastore, 1) := by decide +kernel
theorem dX7_text_163 : decode cX7_text 163 = .ok (.iload_n 2, 1) := by decide +kernel
theorem dX7_text_164 : decode cX7_text 164 = .ok (.ireturn, 1) := by decide +kernel
def wpX7_text_117 (C : CT) (I117 : Int32 → Int32 → Int32 → Mem → Prop)  (x1 : Int32) (x2 : Int32) (x3 : Int32) (V : Mem) (Q : Option AV → Mem → Prop) : Prop :=
  (((V 24 0 16) ≤ x3 → (∀ V_1 : Mem, V_1 = mu V 25 0 10 ((V 25 0 10) + 1) → Q (some (aI x2)) V_1)) ∧ (¬ (V 24 0 16) ≤ x3 → (∃ j_2 : Nat, x3 = nI j_2 ∧ j_2 < 96 ∧ (∃ j_3 : Nat, ((135 + (96 * x2)) + x3) = nI j_3 ∧ j_3 < 1479 ∧ (∀ V_4 : Mem, V_4 = mu V 25 0 j_3 (V 32 0 j_2) → I117 x1 x2 (x3 + 1) V_4)))))
set_option maxRecDepth 10000 in
theorem okX7_text_117 {d : Nat} {P : Option AV → Mem → Prop} {I117 : Int32 → Int32 → Int32 → Mem → Prop}   (x1 : Int32) (x2 : Int32) (x3 : Int32)  (V : Mem) (hk117 : ∀ (x1 : Int32) (x2 : Int32) (x3 : Int32), ∀ (V : Mem), I117 x1 x2 x3 V → Gq (Kp (d + 1) mX7_text UM P) UM cX7_text 4 RX7 117 [(0, aR 24 0), (1, aI x1), (2, aI x2), (3, aI x3)] [] V) (h : wpX7_text_117 (Cl UM d) I117  x1 x2 x3 V P) : Gq (Kp (d + 1) mX7_text UM P) UM cX7_text 4 RX7 117 [(0, aR 24 0), (1, aI x1), (2, aI x2), (3, aI x3)] [] V := by
  unfold wpX7_text_117 at h
  refine go_iload_n (q := 3) dX7_text_117 rfl rfl ?_
  refine go_aload_n (q := 0) dX7_text_118 rfl rfl ?_
  refine go_geti fg_X7_222 dX7_text_119 (mM (by decide) (by decide) rfl) ?_
  refine go_icmp_ge (tgt := 152) dX7_text_122 (by decide) (fun c_5 => ?_) (fun c_5 => ?_)
  · have h := h.1 c_5
    refine go_aload_n (q := 0) dX7_text_152 rfl rfl ?_
    refine go_getr fg_X7_9 dX7_text_153 (mM (by decide) (by decide) rfl) ?_
    refine go_bipush (v := 10) dX7_text_156 (by decide) ?_
    refine go_dup2 dX7_text_158 rfl rfl ?_
    refine go_iald (r := 25) (n := 1479) (j := 10) rfl (by decide) dX7_text_159 (mM (by decide) (by decide) rfl) (by decide) (by decide) ?_
    refine go_iconst (v := 1) dX7_text_160 (by decide) ?_
    refine go_iadd dX7_text_161 ?_
    refine go_iast (r := 25) (n := 1479) (j := 10) rfl (by decide) dX7_text_162 (mM (by decide) (by decide) rfl) (by decide) (by decide) ?_
    refine nmV (fun V_1 e_V_1 => ?_)
    have h := h V_1 e_V_1
    refine go_iload_n (q := 2) dX7_text_163 rfl rfl ?_
    exact go_iret rfl dX7_text_164 h
  · have h := h.2 c_5
    refine go_aload_n (q := 0) dX7_text_125 rfl rfl ?_
    refine go_getr fg_X7_9 dX7_text_126 (mM (by decide) (by decide) rfl) ?_
    refine go_sipush (v := 135) dX7_text_129 (by decide) ?_
    refine go_bipush (v := 96) dX7_text_132 (by decide) ?_
    refine go_iload_n (q := 2) dX7_text_134 rfl rfl ?_
    refine go_imul dX7_text_135 ?_
    refine go_iadd dX7_text_136 ?_
    refine go_iload_n (q := 3) dX7_text_137 rfl rfl ?_
    refine go_iadd dX7_text_138 ?_
    refine go_aload_n (q := 0) dX7_text_139 rfl rfl ?_
    refine go_getr fg_X7_32 dX7_text_140 (mM (by decide) (by decide) rfl) ?_
    refine go_iload_n (q := 3) dX7_text_143 rfl rfl ?_
    obtain ⟨j_2, e_j_2, l_j_2, h⟩ := h
    refine go_iald (r := 32) (n := 96) (j := j_2) rfl (by decide) dX7_text_144 (mM (by decide) (by decide) rfl) e_j_2 l_j_2 ?_
    obtain ⟨j_3, e_j_3, l_j_3, h⟩ := h
    refine go_iast (r := 25) (n := 1479) (j := j_3) rfl (by decide) dX7_text_145 (mM (by decide) (by decide) rfl) e_j_3 l_j_3 ?_
    refine nmV (fun V_4 e_V_4 => ?_)
    have h := h V_4 e_V_4
    refine go_iinc (q := 3) (y := 1) (al1 := [(3, aI (x3 + 1)), (0, aR 24 0), (1, aI x1), (2, aI x2)]) dX7_text_146 rfl (by decide) (by decide) rfl ?_
    refine go_goto (tgt := 117) dX7_text_149 (by decide) ?_
    refine go_sub (al1 := [(0, aR 24 0), (1, aI x1), (2, aI x2), (3, aI (x3 + 1))]) [1, 2, 3, 0] rfl ?_
    exact hk117 x1 x2 (x3 + 1)  V_4 h
def wpX7_text_33 (C : CT) (I117 : Int32 → Int32 → Int32 → Mem → Prop)  (s0 : Int32) (V : Mem) (Q : Option AV → Mem → Prop) : Prop :=
  (∀ V_1 : Mem, V_1 = mu V 24 0 6 0 → ((¬ s0 = 0 → ((¬ (V_1 25 0 10) = 14 → (∀ z_2 : Int32, z_2 = (V_1 25 0 10) → (∃ j_3 : Nat, (107 + (2 * z_2)) = nI j_3 ∧ j_3 < 1479 ∧ (∀ V_4 : Mem, V_4 = mu V_1 25 0 j_3 ((1000 * (V_1 24 0 12)) + (V_1 24 0 16)) → (∃ j_5 : Nat, ((107 + (2 * z_2)) + 1) = nI j_5 ∧ j_5 < 1479 ∧ (∀ V_6 : Mem, V_6 = mu V_4 25 0 j_5 (V_4 24 0 17) → I117 s0 z_2 0 V_6)))))) ∧ ((V_1 25 0 10) = 14 → Q (some (aI (-1000000003))) V_1))) ∧ (s0 = 0 → Q (some (aI ((-100) - (V_1 24 0 8)))) V_1)))
set_option maxRecDepth 10000 in
theorem okX7_text_33 {d : Nat} {P : Option AV → Mem → Prop} {I117 : Int32 → Int32 → Int32 → Mem → Prop}   (s0 : Int32)  (V : Mem) (hk117 : ∀ (x1 : Int32) (x2 : Int32) (x3 : Int32), ∀ (V : Mem), I117 x1 x2 x3 V → Gq (Kp (d + 1) mX7_text UM P) UM cX7_text 4 RX7 117 [(0, aR 24 0), (1, aI x1), (2, aI x2), (3, aI x3)] [] V) (h : wpX7_text_33 (Cl UM d) I117  s0 V P) : Gq (Kp (d + 1) mX7_text UM P) UM cX7_text 4 RX7 33 [(0, aR 24 0)] [aI s0] V := by
  unfold wpX7_text_33 at h
  refine go_istore_n (al1 := [(1, aI s0), (0, aR 24 0)]) dX7_text_33 rfl (by decide) rfl ?_
  refine go_aload_n (q := 1) dX7_text_34 rfl rfl ?_
  refine go_iconst (v := 0) dX7_text_35 (by decide) ?_
  refine go_puti fp_X7_185 dX7_text_36 (mM (by decide) (by decide) rfl) ?_
  refine nmV (fun V_1 e_V_1 => ?_)
  have h := h V_1 e_V_1
  refine go_iload_n (q := 0) dX7_text_39 rfl rfl ?_
  refine go_if_ne (tgt := 51) dX7_text_40 (by decide) (fun c_8 => ?_) (fun c_8 => ?_)
  · have h := h.1 c_8
    refine go_aload_n (q := 1) dX7_text_51 rfl rfl ?_
    refine go_getr fg_X7_9 dX7_text_52 (mM (by decide) (by decide) rfl) ?_
    refine go_bipush (v := 10) dX7_text_55 (by decide) ?_
    refine go_iald (r := 25) (n := 1479) (j := 10) rfl (by decide) dX7_text_57 (mM (by decide) (by decide) rfl) (by decide) (by decide) ?_
    refine go_bipush (v := 14) dX7_text_58 (by decide) ?_
    refine go_icmp_ne (tgt := 66) dX7_text_60 (by decide) (fun c_7 => ?_) (fun c_7 => ?_)
    · have h := h.1 c_7
      refine go_aload_n (q := 1) dX7_text_66 rfl rfl ?_
      refine go_getr fg_X7_9 dX7_text_67 (mM (by decide) (by decide) rfl) ?_
      refine go_bipush (v := 10) dX7_text_70 (by decide) ?_
      refine go_iald (r := 25) (n := 1479) (j := 10) rfl (by decide) dX7_text_72 (mM (by decide) (by decide) rfl) (by decide) (by decide) ?_
      refine nmI (fun z_2 e_z_2 => ?_)
      have h := h z_2 e_z_2
      refine go_istore_n (al1 := [(2, aI z_2), (1, aI s0), (0, aR 24 0)]) dX7_text_73 rfl (by decide) rfl ?_
      refine go_aload_n (q := 2) dX7_text_74 rfl rfl ?_
      refine go_getr fg_X7_9 dX7_text_75 (mM (by decide) (by decide) rfl) ?_
      refine go_bipush (v := 107) dX7_text_78 (by decide) ?_
      refine go_iconst (v := 2) dX7_text_80 (by decide) ?_
      refine go_iload_n (q := 0) dX7_text_81 rfl rfl ?_
      refine go_imul dX7_text_82 ?_
      refine go_iadd dX7_text_83 ?_
      refine go_sipush (v := 1000) dX7_text_84 (by decide) ?_
      refine go_aload_n (q := 2) dX7_text_87 rfl rfl ?_
      refine go_geti fg_X7_210 dX7_text_88 (mM (by decide) (by decide) rfl) ?_
      refine go_imul dX7_text_91 ?_
      refine go_aload_n (q := 2) dX7_text_92 rfl rfl ?_
      refine go_geti fg_X7_222 dX7_text_93 (mM (by decide) (by decide) rfl) ?_
      refine go_iadd dX7_text_96 ?_
      obtain ⟨j_3, e_j_3, l_j_3, h⟩ := h
      refine go_iast (r := 25) (n := 1479) (j := j_3) rfl (by decide) dX7_text_97 (mM (by decide) (by decide) rfl) e_j_3 l_j_3 ?_
      refine nmV (fun V_4 e_V_4 => ?_)
      have h := h V_4 e_V_4
      refine go_aload_n (q := 2) dX7_text_98 rfl rfl ?_
      refine go_getr fg_X7_9 dX7_text_99 (mM (by decide) (by decide) rfl) ?_
      refine go_bipush (v := 107) dX7_text_102 (by decide) ?_
      refine go_iconst (v := 2) dX7_text_104 (by decide) ?_
      refine go_iload_n (q := 0) dX7_text_105 rfl rfl ?_
      refine go_imul dX7_text_106 ?_
      refine go_iadd dX7_text_107 ?_
      refine go_iconst (v := 1) dX7_text_108 (by decide) ?_
      refine go_iadd dX7_text_109 ?_
      refine go_aload_n (q := 2) dX7_text_110 rfl rfl ?_
      refine go_geti fg_X7_228 dX7_text_111 (mM (by decide) (by decide) rfl) ?_
      obtain ⟨j_5, e_j_5, l_j_5, h⟩ := h
      refine go_iast (r := 25) (n := 1479) (j := j_5) rfl (by decide) dX7_text_114 (mM (by decide) (by decide) rfl) e_j_5 l_j_5 ?_
      refine nmV (fun V_6 e_V_6 => ?_)
      have h := h V_6 e_V_6
      refine go_iconst (v := 0) dX7_text_115 (by decide) ?_
      refine go_istore_n (al1 := [(3, aI 0), (2, aI z_2), (1, aI s0), (0, aR 24 0)]) dX7_text_116 rfl (by decide) rfl ?_
      refine go_sub (al1 := [(0, aR 24 0), (1, aI s0), (2, aI z_2), (3, aI 0)]) [3, 2, 1, 0] rfl ?_
      exact hk117 s0 z_2 0  V_6 h
    · have h := h.2 c_7
      refine go_ldc dX7_text_63 ct_X7_85 ?_
      exact go_iret rfl dX7_text_65 h
  · have h := h.2 c_8
    refine go_bipush (v := (-100)) dX7_text_43 (by decide) ?_
    refine go_aload_n (q := 1) dX7_text_45 rfl rfl ?_
    refine go_geti fg_X7_192 dX7_text_46 (mM (by decide) (by decide) rfl) ?_
    refine go_isub dX7_text_49 ?_
    exact go_iret rfl dX7_text_50 h
def wpX7_text_32 (C : CT) (I117 : Int32 → Int32 → Int32 → Mem → Prop)   (V : Mem) (Q : Option AV → Mem → Prop) : Prop :=
  wpX7_text_33 C I117  0 V Q
set_option maxRecDepth 10000 in
theorem okX7_text_32 {d : Nat} {P : Option AV → Mem → Prop} {I117 : Int32 → Int32 → Int32 → Mem → Prop}     (V : Mem) (hk117 : ∀ (x1 : Int32) (x2 : Int32) (x3 : Int32), ∀ (V : Mem), I117 x1 x2 x3 V → Gq (Kp (d + 1) mX7_text UM P) UM cX7_text 4 RX7 117 [(0, aR 24 0), (1, aI x1), (2, aI x2), (3, aI x3)] [] V) (h : wpX7_text_32 (Cl UM d) I117   V P) : Gq (Kp (d + 1) mX7_text UM P) UM cX7_text 4 RX7 32 [(0, aR 24 0)] [] V := by
  unfold wpX7_text_32 at h
  refine go_iconst (v := 0) dX7_text_32 (by decide) ?_
  exact okX7_text_33   0  V hk117 h
def wpX7_text_0 (C : CT) (I117 : Int32 → Int32 → Int32 → Mem → Prop)   (V : Mem) (Q : Option AV → Mem → Prop) : Prop :=
  (∀ V_1 : Mem, V_1 = mu V 24 0 7 0 → (∀ V_2 : Mem, V_2 = mu V_1 24 0 11 (-1) → (cV C mX7_go [aR 24 0] V_2 (fun V_3 => (cI C mX7_takesKey [aR 24 0] V_3 (fun x_5 V_4 => ((x_5 = 0 → wpX7_text_32 C I117   V_4 Q) ∧ (¬ x_5 = 0 → (cI C mX7_takesE [aR 24 0] V_4 (fun x_7 V_6 => ((x_7 = 0 → wpX7_text_32 C I117   V_6 Q) ∧ (¬ x_7 = 0 → wpX7_text_33 C I117  1 V_6 Q))))))))))))
set_option maxRecDepth 10000 in
theorem okX7_text_0 {d : Nat} {P : Option AV → Mem → Prop} {I117 : Int32 → Int32 → Int32 → Mem → Prop}     (V : Mem) (hk117 : ∀ (x1 : Int32) (x2 : Int32) (x3 : Int32), ∀ (V : Mem), I117 x1 x2 x3 V → Gq (Kp (d + 1) mX7_text UM P) UM cX7_text 4 RX7 117 [(0, aR 24 0), (1, aI x1), (2, aI x2), (3, aI x3)] [] V) (h : wpX7_text_0 (Cl UM d) I117   V P) : Gq (Kp (d + 1) mX7_text UM P) UM cX7_text 4 RX7 0 [(0, aR 24 0)] [] V := by
  unfold wpX7_text_0 at h
  refine go_aload_n (q := 0) dX7_text_0 rfl rfl ?_
  refine go_iconst (v := 0) dX7_text_1 (by decide) ?_
  refine go_puti fp_X7_189 dX7_text_2 (mM (by decide) (by decide) rfl) ?_
  refine nmV (fun V_1 e_V_1 => ?_)
  have h := h V_1 e_V_1
  refine go_aload_n (q := 0) dX7_text_5 rfl rfl ?_
  refine go_iconst (v := (-1)) dX7_text_6 (by decide) ?_
  refine go_puti fp_X7_195 dX7_text_7 (mM (by decide) (by decide) rfl) ?_
  refine nmV (fun V_2 e_V_2 => ?_)
  have h := h V_2 e_V_2
  refine go_aload_n (q := 0) dX7_text_10 rfl rfl ?_
  refine go_cVV (As := []) (st := []) (r := 24) (i := 0) mv_X7_go dX7_text_11 ml_X7_213 (hr_Kp (Nat.le_refl d)) rfl rfl (mM (by decide) (by decide) rfl) rfl rfl (Nat.le_of_ble_eq_true rfl) h (fun V_3 h => ?_)
  refine go_aload_n (q := 0) dX7_text_14 rfl rfl ?_
  refine go_cVI (As := []) (st := []) (r := 24) (i := 0) mv_X7_takesKey dX7_text_15 ml_X7_245 (hr_Kp (Nat.le_refl d)) rfl rfl (mM (by decide) (by decide) rfl) rfl rfl (Nat.le_of_ble_eq_true rfl) h (fun x_5 V_4 h => ?_)
  refine go_if_eq (tgt := 32) dX7_text_18 (by decide) (fun c_9 => ?_) (fun c_9 => ?_)
  · have h := h.1 c_9
    exact okX7_text_32     V_4 hk117 h
  · have h := h.2 c_9
    refine go_aload_n (q := 0) dX7_text_21 rfl rfl ?_
    refine go_cVI (As := []) (st := []) (r := 24) (i := 0) mv_X7_takesE dX7_text_22 ml_X7_248 (hr_Kp (Nat.le_refl d)) rfl rfl (mM (by decide) (by decide) rfl) rfl rfl (Nat.le_of_ble_eq_true rfl) h (fun x_7 V_6 h => ?_)
    refine go_if_eq (tgt := 32) dX7_text_25 (by decide) (fun c_8 => ?_) (fun c_8 => ?_)
    · have h := h.1 c_8
      exact okX7_text_32     V_6 hk117 h
    · have h := h.2 c_8
      refine go_iconst (v := 1) dX7_text_28 (by decide) ?_
      refine go_goto (tgt := 33) dX7_text_29 (by decide) ?_
      exact okX7_text_33   1  V_6 hk117 h
theorem clX7_text {d : Nat} {P : Option AV → Mem → Prop} {I117 : Int32 → Int32 → Int32 → Mem → Prop}    (V : Mem) (hk117 : ∀ (x1 : Int32) (x2 : Int32) (x3 : Int32), ∀ (V : Mem), I117 x1 x2 x3 V → Gq (Kp (d + 1) mX7_text UM P) UM cX7_text 4 RX7 117 [(0, aR 24 0), (1, aI x1), (2, aI x2), (3, aI x3)] [] V) (h : wpX7_text_0 (Cl UM d) I117   V P) : Cl UM (d + 1) mX7_text [aR 24 0] V P :=
  cl_of [(0, aR 24 0)] (by decide) (fun _ => Nat.le_of_ble_eq_true rfl) (fun _ => rfl) (okX7_text_0    V hk117 h)
theorem dX7_textTold_0 : decode cX7_textTold 0 = .ok (.iload_n 1, 1) := by decide +kernel
theorem dX7_textTold_1 : decode cX7_textTold 1 = .ok (.iconst 0, 1) := by decide +kernel
theorem dX7_textTold_2 : decode cX7_textTold 2 = .ok (.aload_n 0, 1) := by decide +kernel
theorem dX7_textTold_3 : decode cX7_textTold 3 = .ok (.getfield 9, 3) := by decide +kernel
theorem dX7_textTold_6 : decode cX7_textTold 6 = .ok (.bipush 10, 2) := by decide +kernel
theorem dX7_textTold_8 : decode cX7_textTold 8 = .ok (.iaload, 1) := by decide +kernel
theorem dX7_textTold_9 : decode cX7_textTold 9 = .ok (.iconst 1, 1) := by decide +kernel
theorem dX7_textTold_10 : decode cX7_textTold 10 = .ok (.isub, 1) := by decide +kernel
theorem dX7_textTold_11 : decode cX7_textTold 11 = .ok (.invokestatic 76, 3) := by decide +kernel
theorem dX7_textTold_14 : decode cX7_textTold 14 = .ok (.ifCond .eq 12, 3) := by decide +kernel
theorem dX7_textTold_17 : decode cX7_textTold 17 = .ok (.iload_n 2, 1) := by decide +kernel
theorem dX7_textTold_18 : decode cX7_textTold 18 = .ok (.iconst 0, 1) := by decide +kernel
theorem dX7_textTold_19 : decode cX7_textTold 19 = .ok (.iconst 1, 1) := by decide +kernel
theorem dX7_textTold_20 : decode cX7_textTold 20 = .ok (.invokestatic 76, 3) := by decide +kernel
theorem dX7_textTold_23 : decode cX7_textTold 23 = .ok (.ifCond .ne 6, 3) := by decide +kernel
theorem dX7_textTold_26 : decode cX7_textTold 26 = .ok (.ldc 84, 2) := by decide +kernel
theorem dX7_textTold_28 : decode cX7_textTold 28 = .ok (.ireturn, 1) := by decide +kernel
theorem dX7_textTold_29 : decode cX7_textTold 29 = .ok (.iload_n 2, 1) := by decide +kernel
theorem dX7_textTold_30 : decode cX7_textTold 30 = .ok (.ifCond .ne 21, 3) := by decide +kernel
theorem dX7_textTold_33 : decode cX7_textTold 33 = .ok (.aload_n 0, 1) := by decide +kernel
theorem dX7_textTold_34 : decode cX7_textTold 34 = .ok (.getfield 9, 3) := by decide +kernel
theorem dX7_textTold_37 : decode cX7_textTold 37 = .ok (.bipush 107, 2) := by decide +kernel
theorem dX7_textTold_39 : decode cX7_textTold 39 = .ok (.iconst 2, 1) := by decide +kernel
theorem dX7_textTold_40 : decode cX7_textTold 40 = .ok (.iload_n 1, 1) := by decide +kernel
theorem dX7_textTold_41 : decode cX7_textTold 41 = .ok (.imul, 1) := by decide +kernel
theorem dX7_textTold_42 : decode cX7_textTold 42 = .ok (.iadd, 1) := by decide +kernel
theorem dX7_textTold_43 : decode cX7_textTold 43 = .ok (.iaload, 1) := by decide +kernel
theorem dX7_textTold_44 : decode cX7_textTold 44 = .ok (.sipush 1000, 3) := by decide +kernel
theorem dX7_textTold_47 : decode cX7_textTold 47 = .ok (.idiv, 1) := by decide +kernel
theorem dX7_textTold_48 : decode cX7_textTold 48 = .ok (.goto 16, 3) := by decide +kernel
theorem dX7_textTold_51 : decode cX7_textTold 51 = .ok (.aload_n 0, 1) := by decide +kernel
theorem dX7_textTold_52 : decode cX7_textTold 52 = .ok (.getfield 9, 3) := by decide +kernel
theorem dX7_textTold_55 : decode cX7_textTold 55 = .ok (.bipush 107, 2) := by decide +kernel
theorem dX7_textTold_57 : decode cX7_textTold 57 = .ok (.iconst 2, 1) := by decide +kernel
theorem dX7_textTold_58 : decode cX7_textTold 58 = .ok (.iload_n 1, 1) := by decide +kernel
theorem dX7_textTold_59 : decode cX7_textTold 59 = .ok (.imul, 1) := by decide +kernel
theorem dX7_textTold_60 : decode cX7_textTold 60 = .ok (.iadd, 1) := by decide +kernel
theorem dX7_textTold_61 : decode cX7_textTold 61 = .ok (.iconst 1, 1) := by decide +kernel
theorem dX7_textTold_62 : decode cX7_textTold 62 = .ok (.iadd, 1) := by decide +kernel
theorem dX7_textTold_63 : decode cX7_textTold 63 = .ok (.iaload, 1) := by decide +kernel
theorem dX7_textTold_64 : decode cX7_textTold 64 = .ok (.ireturn, 1) := by decide +kernel
def wpX7_textTold_0 (C : CT)   (x1 : Int32) (x2 : Int32) (V : Mem) (Q : Option AV → Mem → Prop) : Prop :=
  (cI C mX7_in [aI x1, aI 0, aI ((V 25 0 10) - 1)] V (fun x_2 V_1 => ((x_2 = 0 → Q (some (aI (-1000000001))) V_1) ∧ (¬ x_2 = 0 → (cI C mX7_in [aI x2, aI 0, aI 1] V_1 (fun x_4 V_3 => ((¬ x_4 = 0 → ((¬ x2 = 0 → (∃ j_5 : Nat, ((107 + (2 * x1)) + 1) = nI j_5 ∧ j_5 < 1479 ∧ Q (some (aI (V_3 25 0 j_5))) V_3)) ∧ (x2 = 0 → (∃ j_6 : Nat, (107 + (2 * x1)) = nI j_6 ∧ j_6 < 1479 ∧ Q (some (aI ((V_3 25 0 j_6) / 1000))) V_3)))) ∧ (x_4 = 0 → Q (some (aI (-1000000001))) V_3))))))))
set_option maxRecDepth 10000 in
theorem okX7_textTold_0 {d : Nat} {P : Option AV → Mem → Prop}    (x1 : Int32) (x2 : Int32)  (V : Mem)  (h : wpX7_textTold_0 (Cl UM d)   x1 x2 V P) : Gq (Kp (d + 1) mX7_textTold UM P) UM cX7_textTold 3 RX7 0 [(0, aR 24 0), (1, aI x1), (2, aI x2)] [] V := by
  unfold wpX7_textTold_0 at h
  refine go_iload_n (q := 1) dX7_textTold_0 rfl rfl ?_
  refine go_iconst (v := 0) dX7_textTold_1 (by decide) ?_
  refine go_aload_n (q := 0) dX7_textTold_2 rfl rfl ?_
  refine go_getr fg_X7_9 dX7_textTold_3 (mM (by decide) (by decide) rfl) ?_
  refine go_bipush (v := 10) dX7_textTold_6 (by decide) ?_
  refine go_iald (r := 25) (n := 1479) (j := 10) rfl (by decide) dX7_textTold_8 (mM (by decide) (by decide) rfl) (by decide) (by decide) ?_
  refine go_iconst (v := 1) dX7_textTold_9 (by decide) ?_
  refine go_isub dX7_textTold_10 ?_
  refine go_cSI (As := [aI x1, aI 0, aI ((V 25 0 10) - 1)]) (st := []) ms_X7_in dX7_textTold_11 ml_X7_76 (hr_Kp (Nat.le_refl d)) rfl rfl (Nat.le_of_ble_eq_true rfl) h (fun x_2 V_1 h => ?_)
  refine go_if_eq (tgt := 26) dX7_textTold_14 (by decide) (fun c_9 => ?_) (fun c_9 => ?_)
  · have h := h.1 c_9
    refine go_ldc dX7_textTold_26 ct_X7_84 ?_
    exact go_iret rfl dX7_textTold_28 h
  · have h := h.2 c_9
    refine go_iload_n (q := 2) dX7_textTold_17 rfl rfl ?_
    refine go_iconst (v := 0) dX7_textTold_18 (by decide) ?_
    refine go_iconst (v := 1) dX7_textTold_19 (by decide) ?_
    refine go_cSI (As := [aI x2, aI 0, aI 1]) (st := []) ms_X7_in dX7_textTold_20 ml_X7_76 (hr_Kp (Nat.le_refl d)) rfl rfl (Nat.le_of_ble_eq_true rfl) h (fun x_4 V_3 h => ?_)
    refine go_if_ne (tgt := 29) dX7_textTold_23 (by decide) (fun c_8 => ?_) (fun c_8 => ?_)
    · have h := h.1 c_8
      refine go_iload_n (q := 2) dX7_textTold_29 rfl rfl ?_
      refine go_if_ne (tgt := 51) dX7_textTold_30 (by decide) (fun c_7 => ?_) (fun c_7 => ?_)
      · have h := h.1 c_7
        refine go_aload_n (q := 0) dX7_textTold_51 rfl rfl ?_
        refine go_getr fg_X7_9 dX7_textTold_52 (mM (by decide) (by decide) rfl) ?_
        refine go_bipush (v := 107) dX7_textTold_55 (by decide) ?_
        refine go_iconst (v := 2) dX7_textTold_57 (by decide) ?_
        refine go_iload_n (q := 1) dX7_textTold_58 rfl rfl ?_
        refine go_imul dX7_textTold_59 ?_
        refine go_iadd dX7_textTold_60 ?_
        refine go_iconst (v := 1) dX7_textTold_61 (by decide) ?_
        refine go_iadd dX7_textTold_62 ?_
        obtain ⟨j_5, e_j_5, l_j_5, h⟩ := h
        refine go_iald (r := 25) (n := 1479) (j := j_5) rfl (by decide) dX7_textTold_63 (mM (by decide) (by decide) rfl) e_j_5 l_j_5 ?_
        exact go_iret rfl dX7_textTold_64 h
      · have h := h.2 c_7
        refine go_aload_n (q := 0) dX7_textTold_33 rfl rfl ?_
        refine go_getr fg_X7_9 dX7_textTold_34 (mM (by decide) (by decide) rfl) ?_
        refine go_bipush (v := 107) dX7_textTold_37 (by decide) ?_
        refine go_iconst (v := 2) dX7_textTold_39 (by decide) ?_
        refine go_iload_n (q := 1) dX7_textTold_40 rfl rfl ?_
        refine go_imul dX7_textTold_41 ?_
        refine go_iadd dX7_textTold_42 ?_
        obtain ⟨j_6, e_j_6, l_j_6, h⟩ := h
        refine go_iald (r := 25) (n := 1479) (j := j_6) rfl (by decide) dX7_textTold_43 (mM (by decide) (by decide) rfl) e_j_6 l_j_6 ?_
        refine go_sipush (v := 1000) dX7_textTold_44 (by decide) ?_
        refine go_idiv dX7_textTold_47 (by decide) ?_
        refine go_goto (tgt := 64) dX7_textTold_48 (by decide) ?_
        exact go_iret rfl dX7_textTold_64 h
    · have h := h.2 c_8
      refine go_ldc dX7_textTold_26 ct_X7_84 ?_
      exact go_iret rfl dX7_textTold_28 h
theorem clX7_textTold {d : Nat} {P : Option AV → Mem → Prop}    (x1 : Int32) (x2 : Int32) (V : Mem)  (h : wpX7_textTold_0 (Cl UM d)   x1 x2 V P) : Cl UM (d + 1) mX7_textTold [aR 24 0, aI x1, aI x2] V P :=
  cl_of [(0, aR 24 0), (1, aI x1), (2, aI x2)] (by decide) (fun _ => Nat.le_of_ble_eq_true rfl) (fun _ => rfl) (okX7_textTold_0   x1 x2 V  h)
theorem dX7_counts_0 : decode cX7_counts 0 = .ok (.aload_n 0, 1) := by decide +kernel
theorem dX7_counts_1 : decode cX7_counts 1 = .ok (.getfield 9, 3) := by decide +kernel
theorem dX7_counts_4 : decode cX7_counts 4 = .ok (.bipush 10, 2) := by decide +kernel
theorem dX7_counts_6 : decode cX7_counts 6 = .ok (.iaload, 1) := by decide +kernel
theorem dX7_counts_7 : decode cX7_counts 7 = .ok (.iconst 1, 1) := by decide +kernel
theorem dX7_counts_8 : decode cX7_counts 8 = .ok (.isub, 1) := by decide +kernel
theorem dX7_counts_9 : decode cX7_counts 9 = .ok (.istore_n 2, 1) := by decide +kernel
theorem dX7_counts_10 : decode cX7_counts 10 = .ok (.iload_n 2, 1) := by decide +kernel
theorem dX7_counts_11 : decode cX7_counts 11 = .ok (.ifCond .lt 30, 3) := by decide +kernel
theorem dX7_counts_14 : decode cX7_counts 14 = .ok (.aload_n 0, 1) := by decide +kernel
theorem dX7_counts_15 : decode cX7_counts 15 = .ok (.getfield 9, 3) := by decide +kernel
theorem dX7_counts_18 : decode cX7_counts 18 = .ok (.bipush 107, 2) := by decide +kernel
theorem dX7_counts_20 : decode cX7_counts 20 = .ok (.iconst 2, 1) := by decide +kernel
theorem dX7_counts_21 : decode cX7_counts 21 = .ok (.iload_n 2, 1) := by decide +kernel
theorem dX7_counts_22 : decode cX7_counts 22 = .ok (.imul, 1) := by decide +kernel
theorem dX7_counts_23 : decode cX7_counts 23 = .ok (.iadd, 1) := by decide +kernel
theorem dX7_counts_24 : decode cX7_counts 24 = .ok (.iaload, 1) := by decide +kernel
theorem dX7_counts_25 : decode cX7_counts 25 = .ok (.sipush 1000, 3) := by decide +kernel
theorem dX7_counts_28 : decode cX7_counts 28 = .ok (.idiv, 1) := by decide +kernel
theorem dX7_counts_29 : decode cX7_counts 29 = .ok (.iload_n 1, 1) := by decide +kernel
theorem dX7_counts_30 : decode cX7_counts 30 = .ok (.if_icmp .ne 5, 3) := by decide +kernel
theorem dX7_counts_33 : decode cX7_counts 33 = .ok (.iload_n 2, 1) := by decide +kernel
theorem dX7_counts_34 : decode cX7_counts 34 = .ok (.ireturn, 1) := by decide +kernel
theorem dX7_counts_35 : decode cX7_counts 35 = .ok (.iinc 2 (-1), 3) := by decide +kernel
theorem dX7_counts_38 : decode cX7_counts 38 = .ok (.goto (-28), 3) := by decide +kernel
theorem dX7_counts_41 : decode cX7_counts 41 = .ok (.iconst (-1), 1) := by decide +kernel
theorem dX7_counts_42 : decode cX7_counts 42 = .ok (.ireturn, 1) := by decide +kernel
def wpX7_counts_10 (C : CT) (I10 : Int32 → Int32 → Mem → Prop)  (x1 : Int32) (x2 : Int32) (V : Mem) (Q : Option AV → Mem → Prop) : Prop :=
  ((x2 < 0 → Q (some (aI (-1))) V) ∧ (¬ x2 < 0 → (∃ j_1 : Nat, (107 + (2 * x2)) = nI j_1 ∧ j_1 < 1479 ∧ ((¬ ((V 25 0 j_1) / 1000) = x1 → I10 x1 (x2 + (-1)) V) ∧ (((V 25 0 j_1) / 1000) = x1 → Q (some (aI x2)) V)))))
set_option maxRecDepth 10000 in
theorem okX7_counts_10 {d : Nat} {P : Option AV → Mem → Prop} {I10 : Int32 → Int32 → Mem → Prop}   (x1 : Int32) (x2 : Int32)  (V : Mem) (hk10 : ∀ (x1 : Int32) (x2 : Int32), ∀ (V : Mem), I10 x1 x2 V → Gq (Kp (d + 1) mX7_counts UM P) UM cX7_counts 3 RX7 10 [(0, aR 24 0), (1, aI x1), (2, aI x2)] [] V) (h : wpX7_counts_10 (Cl UM d) I10  x1 x2 V P) : Gq (Kp (d + 1) mX7_counts UM P) UM cX7_counts 3 RX7 10 [(0, aR 24 0), (1, aI x1), (2, aI x2)] [] V := by
  unfold wpX7_counts_10 at h
  refine go_iload_n (q := 2) dX7_counts_10 rfl rfl ?_
  refine go_if_lt (tgt := 41) dX7_counts_11 (by decide) (fun c_3 => ?_) (fun c_3 => ?_)
  · have h := h.1 c_3
    refine go_iconst (v := (-1)) dX7_counts_41 (by decide) ?_
    exact go_iret rfl dX7_counts_42 h
  · have h := h.2 c_3
    refine go_aload_n (q := 0) dX7_counts_14 rfl rfl ?_
    refine go_getr fg_X7_9 dX7_counts_15 (mM (by decide) (by decide) rfl) ?_
    refine go_bipush (v := 107) dX7_counts_18 (by decide) ?_
    refine go_iconst (v := 2) dX7_counts_20 (by decide) ?_
    refine go_iload_n (q := 2) dX7_counts_21 rfl rfl ?_
    refine go_imul dX7_counts_22 ?_
    refine go_iadd dX7_counts_23 ?_
    obtain ⟨j_1, e_j_1, l_j_1, h⟩ := h
    refine go_iald (r := 25) (n := 1479) (j := j_1) rfl (by decide) dX7_counts_24 (mM (by decide) (by decide) rfl) e_j_1 l_j_1 ?_
    refine go_sipush (v := 1000) dX7_counts_25 (by decide) ?_
    refine go_idiv dX7_counts_28 (by decide) ?_
    refine go_iload_n (q := 1) dX7_counts_29 rfl rfl ?_
    refine go_icmp_ne (tgt := 35) dX7_counts_30 (by decide) (fun c_2 => ?_) (fun c_2 => ?_)
    · have h := h.1 c_2
      refine go_iinc (q := 2) (y := (-1)) (al1 := [(2, aI (x2 + (-1))), (0, aR 24 0), (1, aI x1)]) dX7_counts_35 rfl (by decide) (by decide) rfl ?_
      refine go_goto (tgt := 10) dX7_counts_38 (by decide) ?_
      refine go_sub (al1 := [(0, aR 24 0), (1, aI x1), (2, aI (x2 + (-1)))]) [1, 2, 0] rfl ?_
      exact hk10 x1 (x2 + (-1))  V h
    · have h := h.2 c_2
      refine go_iload_n (q := 2) dX7_counts_33 rfl rfl ?_
      exact go_iret rfl dX7_counts_34 h
def wpX7_counts_0 (C : CT) (I10 : Int32 → Int32 → Mem → Prop)  (x1 : Int32) (V : Mem) (Q : Option AV → Mem → Prop) : Prop :=
  (∀ z_1 : Int32, z_1 = ((V 25 0 10) - 1) → I10 x1 z_1 V)
set_option maxRecDepth 10000 in
theorem okX7_counts_0 {d : Nat} {P : Option AV → Mem → Prop} {I10 : Int32 → Int32 → Mem → Prop}   (x1 : Int32)  (V : Mem) (hk10 : ∀ (x1 : Int32) (x2 : Int32), ∀ (V : Mem), I10 x1 x2 V → Gq (Kp (d + 1) mX7_counts UM P) UM cX7_counts 3 RX7 10 [(0, aR 24 0), (1, aI x1), (2, aI x2)] [] V) (h : wpX7_counts_0 (Cl UM d) I10  x1 V P) : Gq (Kp (d + 1) mX7_counts UM P) UM cX7_counts 3 RX7 0 [(0, aR 24 0), (1, aI x1)] [] V := by
  unfold wpX7_counts_0 at h
  refine go_aload_n (q := 0) dX7_counts_0 rfl rfl ?_
  refine go_getr fg_X7_9 dX7_counts_1 (mM (by decide) (by decide) rfl) ?_
  refine go_bipush (v := 10) dX7_counts_4 (by decide) ?_
  refine go_iald (r := 25) (n := 1479) (j := 10) rfl (by decide) dX7_counts_6 (mM (by decide) (by decide) rfl) (by decide) (by decide) ?_
  refine go_iconst (v := 1) dX7_counts_7 (by decide) ?_
  refine go_isub dX7_counts_8 ?_
  refine nmI (fun z_1 e_z_1 => ?_)
  have h := h z_1 e_z_1
  refine go_istore_n (al1 := [(2, aI z_1), (0, aR 24 0), (1, aI x1)]) dX7_counts_9 rfl (by decide) rfl ?_
  refine go_sub (al1 := [(0, aR 24 0), (1, aI x1), (2, aI z_1)]) [1, 2, 0] rfl ?_
  exact hk10 x1 z_1  V h
theorem clX7_counts {d : Nat} {P : Option AV → Mem → Prop} {I10 : Int32 → Int32 → Mem → Prop}   (x1 : Int32) (V : Mem) (hk10 : ∀ (x1 : Int32) (x2 : Int32), ∀ (V : Mem), I10 x1 x2 V → Gq (Kp (d + 1) mX7_counts UM P) UM cX7_counts 3 RX7 10 [(0, aR 24 0), (1, aI x1), (2, aI x2)] [] V) (h : wpX7_counts_0 (Cl UM d) I10  x1 V P) : Cl UM (d + 1) mX7_counts [aR 24 0, aI x1] V P :=
  cl_of [(0, aR 24 0), (1, aI x1)] (by decide) (fun _ => Nat.le_of_ble_eq_true rfl) (fun _ => rfl) (okX7_counts_0   x1 V hk10 h)
theorem dX7_why_0 : decode cX7_why 0 = .ok (.iload_n 1, 1) := by decide +kernel
theorem dX7_why_1 : decode cX7_why 1 = .ok (.iconst 0, 1) := by decide +kernel
theorem dX7_why_2 : decode cX7_why 2 = .ok (.iconst 2, 1) := by decide +kernel
theorem dX7_why_3 : decode cX7_why 3 = .ok (.invokestatic 76, 3) := by decide +kernel
theorem dX7_why_6 : decode cX7_why 6 = .ok (.ifCond .ne 6, 3) := by decide +kernel
theorem dX7_why_9 : decode cX7_why 9 = .ok (.ldc 84, 2) := by decide +kernel
theorem dX7_why_11 : decode cX7_why 11 = .ok (.ireturn, 1) := by decide +kernel
theorem dX7_why_12 : decode cX7_why 12 = .ok (.aload_n 0, 1) := by decide +kernel
theorem dX7_why_13 : decode cX7_why 13 = .ok (.iload_n 1, 1) := by decide +kernel
theorem dX7_why_14 : decode cX7_why 14 = .ok (.invokevirtual 101, 3) := by decide +kernel
theorem dX7_why_17 : decode cX7_why 17 = .ok (.istore_n 2, 1) := by decide +kernel
theorem dX7_why_18 : decode cX7_why 18 = .ok (.iload_n 2, 1) := by decide +kernel
theorem dX7_why_19 : decode cX7_why 19 = .ok (.ifCond .ge 8, 3) := by decide +kernel
theorem dX7_why_22 : decode cX7_why 22 = .ok (.ldc 75, 2) := by decide +kernel
theorem dX7_why_24 : decode cX7_why 24 = .ok (.goto 4, 3) := by decide +kernel
theorem dX7_why_27 : decode cX7_why 27 = .ok (.iload_n 2, 1) := by decide +kernel
theorem dX7_why_28 : decode cX7_why 28 = .ok (.ireturn, 1) := by decide +kernel
def wpX7_why_0 (C : CT)   (x1 : Int32) (V : Mem) (Q : Option AV → Mem → Prop) : Prop :=
  (cI C mX7_in [aI x1, aI 0, aI 2] V (fun x_2 V_1 => ((¬ x_2 = 0 → (cI C mX7_counts [aR 24 0, aI x1] V_1 (fun x_4 V_3 => ((0 ≤ x_4 → Q (some (aI x_4)) V_3) ∧ (¬ 0 ≤ x_4 → Q (some (aI (-1000000005))) V_3))))) ∧ (x_2 = 0 → Q (some (aI (-1000000001))) V_1))))
set_option maxRecDepth 10000 in
theorem okX7_why_0 {d : Nat} {P : Option AV → Mem → Prop}    (x1 : Int32)  (V : Mem)  (h : wpX7_why_0 (Cl UM d)   x1 V P) : Gq (Kp (d + 1) mX7_why UM P) UM cX7_why 3 RX7 0 [(0, aR 24 0), (1, aI x1)] [] V := by
  unfold wpX7_why_0 at h
  refine go_iload_n (q := 1) dX7_why_0 rfl rfl ?_
  refine go_iconst (v := 0) dX7_why_1 (by decide) ?_
  refine go_iconst (v := 2) dX7_why_2 (by decide) ?_
  refine go_cSI (As := [aI x1, aI 0, aI 2]) (st := []) ms_X7_in dX7_why_3 ml_X7_76 (hr_Kp (Nat.le_refl d)) rfl rfl (Nat.le_of_ble_eq_true rfl) h (fun x_2 V_1 h => ?_)
  refine go_if_ne (tgt := 12) dX7_why_6 (by decide) (fun c_6 => ?_) (fun c_6 => ?_)
  · have h := h.1 c_6
    refine go_aload_n (q := 0) dX7_why_12 rfl rfl ?_
    refine go_iload_n (q := 1) dX7_why_13 rfl rfl ?_
    refine go_cVI (As := [aI x1]) (st := []) (r := 24) (i := 0) mv_X7_counts dX7_why_14 ml_X7_101 (hr_Kp (Nat.le_refl d)) rfl rfl (mM (by decide) (by decide) rfl) rfl rfl (Nat.le_of_ble_eq_true rfl) h (fun x_4 V_3 h => ?_)
    refine go_istore_n (al1 := [(2, aI x_4), (0, aR 24 0), (1, aI x1)]) dX7_why_17 rfl (by decide) rfl ?_
    refine go_iload_n (q := 0) dX7_why_18 rfl rfl ?_
    refine go_if_ge (tgt := 27) dX7_why_19 (by decide) (fun c_5 => ?_) (fun c_5 => ?_)
    · have h := h.1 c_5
      refine go_iload_n (q := 0) dX7_why_27 rfl rfl ?_
      exact go_iret rfl dX7_why_28 h
    · have h := h.2 c_5
      refine go_ldc dX7_why_22 ct_X7_75 ?_
      refine go_goto (tgt := 28) dX7_why_24 (by decide) ?_
      exact go_iret rfl dX7_why_28 h
  · have h := h.2 c_6
    refine go_ldc dX7_why_9 ct_X7_84 ?_
    exact go_iret rfl dX7_why_11 h
theorem clX7_why {d : Nat} {P : Option AV → Mem → Prop}    (x1 : Int32) (V : Mem)  (h : wpX7_why_0 (Cl UM d)   x1 V P) : Cl UM (d + 1) mX7_why [aR 24 0, aI x1] V P :=
  cl_of [(0, aR 24 0), (1, aI x1)] (by decide) (fun _ => Nat.le_of_ble_eq_true rfl) (fun _ => rfl) (okX7_why_0   x1 V  h)
theorem dX7_two_0 : decode cX7_two 0 = .ok (.iload_n 0, 1) := by decide +kernel
theorem dX7_two_1 : decode cX7_two 1 = .ok (.tableswitch 120 (-8) (-1) #[116, 112, 108, 97, 86, 75, 61, 47], 47) := by decide +kernel
theorem dX7_two_48 : decode cX7_two 48 = .ok (.iload_n 1, 1) := by decide +kernel
theorem dX7_two_49 : decode cX7_two 49 = .ok (.ifCond .ne 7, 3) := by decide +kernel
theorem dX7_two_52 : decode cX7_two 52 = .ok (.iload_n 2, 1) := by decide +kernel
theorem dX7_two_53 : decode cX7_two 53 = .ok (.ifCond .eq 7, 3) := by decide +kernel
theorem dX7_two_56 : decode cX7_two 56 = .ok (.iconst 1, 1) := by decide +kernel
theorem dX7_two_57 : decode cX7_two 57 = .ok (.goto 4, 3) := by decide +kernel
theorem dX7_two_60 : decode cX7_two 60 = .ok (.iconst 0, 1) := by decide +kernel
theorem dX7_two_61 : decode cX7_two 61 = .ok (.ireturn, 1) := by decide +kernel
theorem dX7_two_62 : decode cX7_two 62 = .ok (.iload_n 1, 1) := by decide +kernel
theorem dX7_two_63 : decode cX7_two 63 = .ok (.ifCond .eq 11, 3) := by decide +kernel
theorem dX7_two_66 : decode cX7_two 66 = .ok (.iload_n 2, 1) := by decide +kernel
theorem dX7_two_67 : decode cX7_two 67 = .ok (.ifCond .eq 7, 3) := by decide +kernel
theorem dX7_two_70 : decode cX7_two 70 = .ok (.iconst 1, 1) := by decide +kernel
theorem dX7_two_71 : decode cX7_two 71 = .ok (.goto 4, 3) := by decide +kernel
theorem dX7_two_74 : decode cX7_two 74 = .ok (.iconst 0, 1) := by decide +kernel
theorem dX7_two_75 : decode cX7_two 75 = .ok (.ireturn, 1) := by decide +kernel
theorem dX7_two_76 : decode cX7_two 76 = .ok (.iload_n 1, 1) := by decide +kernel
theorem dX7_two_77 : decode cX7_two 77 = .ok (.iload_n 2, 1) := by decide +kernel
theorem dX7_two_78 : decode cX7_two 78 = .ok (.if_icmp .ge 7, 3) := by decide +kernel
theorem dX7_two_81 : decode cX7_two 81 = .ok (.iconst 1, 1) := by decide +kernel
theorem dX7_two_82 : decode cX7_two 82 = .ok (.goto 4, 3) := by decide +kernel
theorem dX7_two_85 : decode cX7_two 85 = .ok (.iconst 0, 1) := by decide +kernel
theorem dX7_two_86 : decode cX7_two 86 = .ok (.ireturn, 1) := by decide +kernel
theorem dX7_two_87 : decode cX7_two 87 = .ok (.iload_n 1, 1) := by decide +kernel
theorem dX7_two_88 : decode cX7_two 88 = .ok (.iload_n 2, 1) := by decide +kernel
theorem dX7_two_89 : decode cX7_two 89 = .ok (.if_icmp .ne 7, 3) := by decide +kernel
theorem dX7_two_92 : decode cX7_two 92 = .ok (.iconst 1, 1) := by decide +kernel
theorem dX7_two_93 : decode cX7_two 93 = .ok (.goto 4, 3) := by decide +kernel
theorem dX7_two_96 : decode cX7_two 96 = .ok (.iconst 0, 1) := by decide +kernel
theorem dX7_two_97 : decode cX7_two 97 = .ok (.ireturn, 1) := by decide +kernel
theorem dX7_two_98 : decode cX7_two 98 = .ok (.iload_n 1, 1) := by decide +kernel
theorem dX7_two_99 : decode cX7_two 99 = .ok (.iload_n 2, 1) := by decide +kernel
theorem dX7_two_100 : decode cX7_two 100 = .ok (.if_icmp .le 7, 3) := by decide +kernel
theorem dX7_two_103 : decode cX7_two 103 = .ok (.iconst 1, 1) := by decide +kernel
theorem dX7_two_104 : decode cX7_two 104 = .ok (.goto 4, 3) := by decide +kernel
theorem dX7_two_107 : decode cX7_two 107 = .ok (.iconst 0, 1) := by decide +kernel
theorem dX7_two_108 : decode cX7_two 108 = .ok (.ireturn, 1) := by decide +kernel
theorem dX7_two_109 : decode cX7_two 109 = .ok (.iload_n 1, 1) := by decide +kernel
theorem dX7_two_110 : decode cX7_two 110 = .ok (.iload_n 2, 1) := by decide +kernel
theorem dX7_two_111 : decode cX7_two 111 = .ok (.iadd, 1) := by decide +kernel
theorem dX7_two_112 : decode cX7_two 112 = .ok (.ireturn, 1) := by decide +kernel
theorem dX7_two_113 : decode cX7_two 113 = .ok (.iload_n 1, 1) := by decide +kernel
theorem dX7_two_114 : decode cX7_two 114 = .ok (.iload_n 2, 1) := by decide +kernel
theorem dX7_two_115 : decode cX7_two 115 = .ok (.isub, 1) := by decide +kernel
theorem dX7_two_116 : decode cX7_two 116 = .ok (.ireturn, 1) := by decide +kernel
theorem dX7_two_117 : decode cX7_two 117 = .ok (.iload_n 1, 1) := by decide +kernel
theorem dX7_two_118 : decode cX7_two 118 = .ok (.iload_n 2, 1) := by decide +kernel
theorem dX7_two_119 : decode cX7_two 119 = .ok (.imul, 1) := by decide +kernel
theorem dX7_two_120 : decode cX7_two 120 = .ok (.ireturn, 1) := by decide +kernel
theorem dX7_two_121 : decode cX7_two 121 = .ok (.iload_n 2, 1) := by decide +kernel
theorem dX7_two_122 : decode cX7_two 122 = .ok (.ifCond .ne 7, 3) := by decide +kernel
theorem dX7_two_125 : decode cX7_two 125 = .ok (.iconst 0, 1) := by decide +kernel
theorem dX7_two_126 : decode cX7_two 126 = .ok (.goto 6, 3) := by decide +kernel
theorem dX7_two_129 : decode cX7_two 129 = .ok (.iload_n 1, 1) := by decide +kernel
theorem dX7_two_130 : decode cX7_two 130 = .ok (.iload_n 2, 1) := by decide +kernel
theorem dX7_two_131 : decode cX7_two 131 = .ok (.idiv, 1) := by decide +kernel
theorem dX7_two_132 : decode cX7_two 132 = .ok (.ireturn, 1) := by decide +kernel
def wpX7_two_0 (C : CT)   (x0 : Int32) (x1 : Int32) (x2 : Int32) (V : Mem) (Q : Option AV → Mem → Prop) : Prop :=
  ((x0 = (-8) → Q (some (aI (x1 * x2))) V) ∧ (x0 = (-7) → Q (some (aI (x1 - x2))) V) ∧ (x0 = (-6) → Q (some (aI (x1 + x2))) V) ∧ (x0 = (-5) → ((x1 ≤ x2 → Q (some (aI 0)) V) ∧ (¬ x1 ≤ x2 → Q (some (aI 1)) V))) ∧ (x0 = (-4) → ((¬ x1 = x2 → Q (some (aI 0)) V) ∧ (x1 = x2 → Q (some (aI 1)) V))) ∧ (x0 = (-3) → ((x2 ≤ x1 → Q (some (aI 0)) V) ∧ (¬ x2 ≤ x1 → Q (some (aI 1)) V))) ∧ (x0 = (-2) → ((x1 = 0 → Q (some (aI 0)) V) ∧ (¬ x1 = 0 → ((x2 = 0 → Q (some (aI 0)) V) ∧ (¬ x2 = 0 → Q (some (aI 1)) V))))) ∧ (x0 = (-1) → ((¬ x1 = 0 → Q (some (aI 1)) V) ∧ (x1 = 0 → ((x2 = 0 → Q (some (aI 0)) V) ∧ (¬ x2 = 0 → Q (some (aI 1)) V))))) ∧ (¬ x0 = (-8) ∧ ¬ x0 = (-7) ∧ ¬ x0 = (-6) ∧ ¬ x0 = (-5) ∧ ¬ x0 = (-4) ∧ ¬ x0 = (-3) ∧ ¬ x0 = (-2) ∧ ¬ x0 = (-1) → ((¬ x2 = 0 → (¬ x2 = 0 ∧ Q (some (aI (x1 / x2))) V)) ∧ (x2 = 0 → Q (some (aI 0)) V))))
set_option maxRecDepth 10000 in
theorem okX7_two_0 {d : Nat} {P : Option AV → Mem → Prop}    (x0 : Int32) (x1 : Int32) (x2 : Int32)  (V : Mem)  (h : wpX7_two_0 (Cl UM d)   x0 x1 x2 V P) : Gq (Kp (d + 1) mX7_two UM P) UM cX7_two 3 RX7 0 [(0, aI x0), (1, aI x1), (2, aI x2)] [] V := by
  unfold wpX7_two_0 at h
  refine go_iload_n (q := 0) dX7_two_0 rfl rfl ?_
  by_cases c1_0 : x0 = (-8)
  · have h := h.1 c1_0
    refine go_tabC (z := (-8)) (off := 116) (tgt := 117) c1_0 dX7_two_1 (by decide) (by decide) rfl (by decide) ?_
    refine go_iload_n (q := 1) dX7_two_117 rfl rfl ?_
    refine go_iload_n (q := 2) dX7_two_118 rfl rfl ?_
    refine go_imul dX7_two_119 ?_
    exact go_iret rfl dX7_two_120 h
  by_cases c1_1 : x0 = (-7)
  · have h := h.2.1 c1_1
    refine go_tabC (z := (-7)) (off := 112) (tgt := 113) c1_1 dX7_two_1 (by decide) (by decide) rfl (by decide) ?_
    refine go_iload_n (q := 1) dX7_two_113 rfl rfl ?_
    refine go_iload_n (q := 2) dX7_two_114 rfl rfl ?_
    refine go_isub dX7_two_115 ?_
    exact go_iret rfl dX7_two_116 h
  by_cases c1_2 : x0 = (-6)
  · have h := h.2.2.1 c1_2
    refine go_tabC (z := (-6)) (off := 108) (tgt := 109) c1_2 dX7_two_1 (by decide) (by decide) rfl (by decide) ?_
    refine go_iload_n (q := 1) dX7_two_109 rfl rfl ?_
    refine go_iload_n (q := 2) dX7_two_110 rfl rfl ?_
    refine go_iadd dX7_two_111 ?_
    exact go_iret rfl dX7_two_112 h
  by_cases c1_3 : x0 = (-5)
  · have h := h.2.2.2.1 c1_3
    refine go_tabC (z := (-5)) (off := 97) (tgt := 98) c1_3 dX7_two_1 (by decide) (by decide) rfl (by decide) ?_
    refine go_iload_n (q := 1) dX7_two_98 rfl rfl ?_
    refine go_iload_n (q := 2) dX7_two_99 rfl rfl ?_
    refine go_icmp_le (tgt := 107) dX7_two_100 (by decide) (fun c_1 => ?_) (fun c_1 => ?_)
    · have h := h.1 c_1
      refine go_iconst (v := 0) dX7_two_107 (by decide) ?_
      exact go_iret rfl dX7_two_108 h
    · have h := h.2 c_1
      refine go_iconst (v := 1) dX7_two_103 (by decide) ?_
      refine go_goto (tgt := 108) dX7_two_104 (by decide) ?_
      exact go_iret rfl dX7_two_108 h
  by_cases c1_4 : x0 = (-4)
  · have h := h.2.2.2.2.1 c1_4
    refine go_tabC (z := (-4)) (off := 86) (tgt := 87) c1_4 dX7_two_1 (by decide) (by decide) rfl (by decide) ?_
    refine go_iload_n (q := 1) dX7_two_87 rfl rfl ?_
    refine go_iload_n (q := 2) dX7_two_88 rfl rfl ?_
    refine go_icmp_ne (tgt := 96) dX7_two_89 (by decide) (fun c_2 => ?_) (fun c_2 => ?_)
    · have h := h.1 c_2
      refine go_iconst (v := 0) dX7_two_96 (by decide) ?_
      exact go_iret rfl dX7_two_97 h
    · have h := h.2 c_2
      refine go_iconst (v := 1) dX7_two_92 (by decide) ?_
      refine go_goto (tgt := 97) dX7_two_93 (by decide) ?_
      exact go_iret rfl dX7_two_97 h
  by_cases c1_5 : x0 = (-3)
  · have h := h.2.2.2.2.2.1 c1_5
    refine go_tabC (z := (-3)) (off := 75) (tgt := 76) c1_5 dX7_two_1 (by decide) (by decide) rfl (by decide) ?_
    refine go_iload_n (q := 1) dX7_two_76 rfl rfl ?_
    refine go_iload_n (q := 2) dX7_two_77 rfl rfl ?_
    refine go_icmp_ge (tgt := 85) dX7_two_78 (by decide) (fun c_3 => ?_) (fun c_3 => ?_)
    · have h := h.1 c_3
      refine go_iconst (v := 0) dX7_two_85 (by decide) ?_
      exact go_iret rfl dX7_two_86 h
    · have h := h.2 c_3
      refine go_iconst (v := 1) dX7_two_81 (by decide) ?_
      refine go_goto (tgt := 86) dX7_two_82 (by decide) ?_
      exact go_iret rfl dX7_two_86 h
  by_cases c1_6 : x0 = (-2)
  · have h := h.2.2.2.2.2.2.1 c1_6
    refine go_tabC (z := (-2)) (off := 61) (tgt := 62) c1_6 dX7_two_1 (by decide) (by decide) rfl (by decide) ?_
    refine go_iload_n (q := 1) dX7_two_62 rfl rfl ?_
    refine go_if_eq (tgt := 74) dX7_two_63 (by decide) (fun c_5 => ?_) (fun c_5 => ?_)
    · have h := h.1 c_5
      refine go_iconst (v := 0) dX7_two_74 (by decide) ?_
      exact go_iret rfl dX7_two_75 h
    · have h := h.2 c_5
      refine go_iload_n (q := 2) dX7_two_66 rfl rfl ?_
      refine go_if_eq (tgt := 74) dX7_two_67 (by decide) (fun c_4 => ?_) (fun c_4 => ?_)
      · have h := h.1 c_4
        refine go_iconst (v := 0) dX7_two_74 (by decide) ?_
        exact go_iret rfl dX7_two_75 h
      · have h := h.2 c_4
        refine go_iconst (v := 1) dX7_two_70 (by decide) ?_
        refine go_goto (tgt := 75) dX7_two_71 (by decide) ?_
        exact go_iret rfl dX7_two_75 h
  by_cases c1_7 : x0 = (-1)
  · have h := h.2.2.2.2.2.2.2.1 c1_7
    refine go_tabC (z := (-1)) (off := 47) (tgt := 48) c1_7 dX7_two_1 (by decide) (by decide) rfl (by decide) ?_
    refine go_iload_n (q := 1) dX7_two_48 rfl rfl ?_
    refine go_if_ne (tgt := 56) dX7_two_49 (by decide) (fun c_7 => ?_) (fun c_7 => ?_)
    · have h := h.1 c_7
      refine go_iconst (v := 1) dX7_two_56 (by decide) ?_
      refine go_goto (tgt := 61) dX7_two_57 (by decide) ?_
      exact go_iret rfl dX7_two_61 h
    · have h := h.2 c_7
      refine go_iload_n (q := 2) dX7_two_52 rfl rfl ?_
      refine go_if_eq (tgt := 60) dX7_two_53 (by decide) (fun c_6 => ?_) (fun c_6 => ?_)
      · have h := h.1 c_6
        refine go_iconst (v := 0) dX7_two_60 (by decide) ?_
        exact go_iret rfl dX7_two_61 h
      · have h := h.2 c_6
        refine go_iconst (v := 1) dX7_two_56 (by decide) ?_
        refine go_goto (tgt := 61) dX7_two_57 (by decide) ?_
        exact go_iret rfl dX7_two_61 h
  have h := h.2.2.2.2.2.2.2.2 ⟨c1_0, c1_1, c1_2, c1_3, c1_4, c1_5, c1_6, c1_7⟩
  have q_c1_0 := lv_neT c1_0 (show ((-8) : Int32).toInt = (-8) from rfl)
  have q_c1_1 := lv_neT c1_1 (show ((-7) : Int32).toInt = (-7) from rfl)
  have q_c1_2 := lv_neT c1_2 (show ((-6) : Int32).toInt = (-6) from rfl)
  have q_c1_3 := lv_neT c1_3 (show ((-5) : Int32).toInt = (-5) from rfl)
  have q_c1_4 := lv_neT c1_4 (show ((-4) : Int32).toInt = (-4) from rfl)
  have q_c1_5 := lv_neT c1_5 (show ((-3) : Int32).toInt = (-3) from rfl)
  have q_c1_6 := lv_neT c1_6 (show ((-2) : Int32).toInt = (-2) from rfl)
  have q_c1_7 := lv_neT c1_7 (show ((-1) : Int32).toInt = (-1) from rfl)
  refine go_tabOut (tgt := 121) dX7_two_1 (by omega) (by decide) ?_
  refine go_iload_n (q := 2) dX7_two_121 rfl rfl ?_
  refine go_if_ne (tgt := 129) dX7_two_122 (by decide) (fun c_9 => ?_) (fun c_9 => ?_)
  · have h := h.1 c_9
    refine go_iload_n (q := 1) dX7_two_129 rfl rfl ?_
    refine go_iload_n (q := 2) dX7_two_130 rfl rfl ?_
    obtain ⟨c_8, h⟩ := h
    refine go_idiv dX7_two_131 c_8 ?_
    exact go_iret rfl dX7_two_132 h
  · have h := h.2 c_9
    refine go_iconst (v := 0) dX7_two_125 (by decide) ?_
    refine go_goto (tgt := 132) dX7_two_126 (by decide) ?_
    exact go_iret rfl dX7_two_132 h
theorem clX7_two {d : Nat} {P : Option AV → Mem → Prop}    (x0 : Int32) (x1 : Int32) (x2 : Int32) (V : Mem)  (h : wpX7_two_0 (Cl UM d)   x0 x1 x2 V P) : Cl UM (d + 1) mX7_two [aI x0, aI x1, aI x2] V P :=
  cl_of [(0, aI x0), (1, aI x1), (2, aI x2)] (by decide) (fun _ => Nat.le_of_ble_eq_true rfl) (fun _ => rfl) (okX7_two_0   x0 x1 x2 V  h)
theorem dX7_worksOut_0 : decode cX7_worksOut 0 = .ok (.iconst 0, 1) := by decide +kernel
theorem dX7_worksOut_1 : decode cX7_worksOut 1 = .ok (.istore_n 2, 1) := by decide +kernel
theorem dX7_worksOut_2 : decode cX7_worksOut 2 = .ok (.aload_n 0, 1) := by decide +kernel
theorem dX7_worksOut_3 : decode cX7_worksOut 3 = .ok (.getfield 9, 3) := by decide +kernel
theorem dX7_worksOut_6 : decode cX7_worksOut 6 = .ok (.bipush 107, 2) := by decide +kernel
theorem dX7_worksOut_8 : decode cX7_worksOut 8 = .ok (.iconst 2, 1) := by decide +kernel
theorem dX7_worksOut_9 : decode cX7_worksOut 9 = .ok (.iload_n 1, 1) := by decide +kernel
theorem dX7_worksOut_10 : decode cX7_worksOut 10 = .ok (.imul, 1) := by decide +kernel
theorem dX7_worksOut_11 : decode cX7_worksOut 11 = .ok (.iadd, 1) := by decide +kernel
theorem dX7_worksOut_12 : decode cX7_worksOut 12 = .ok (.iaload, 1) := by decide +kernel
theorem dX7_worksOut_13 : decode cX7_worksOut 13 = .ok (.sipush 1000, 3) := by decide +kernel
theorem dX7_worksOut_16 : decode cX7_worksOut 16 = .ok (.irem, 1) := by decide +kernel
theorem dX7_worksOut_17 : decode cX7_worksOut 17 = .ok (.istore_n 3, 1) := by decide +kernel
theorem dX7_worksOut_18 : decode cX7_worksOut 18 = .ok (.iconst 0, 1) := by decide +kernel
theorem dX7_worksOut_19 : decode cX7_worksOut 19 = .ok (.istore 4, 2) := by decide +kernel
theorem dX7_worksOut_21 : decode cX7_worksOut 21 = .ok (.iload 4, 2) := by decide +kernel
theorem dX7_worksOut_23 : decode cX7_worksOut 23 = .ok (.iload_n 3, 1) := by decide +kernel
theorem dX7_worksOut_24 : decode cX7_worksOut 24 = .ok (.if_icmp .ge 132, 3) := by decide +kernel
theorem dX7_worksOut_27 : decode cX7_worksOut 27 = .ok (.aload_n 0, 1) := by decide +kernel
theorem dX7_worksOut_28 : decode cX7_worksOut 28 = .ok (.getfield 9, 3) := by decide +kernel
theorem dX7_worksOut_31 : decode cX7_worksOut 31 = .ok (.sipush 135, 3) := by decide +kernel
theorem dX7_worksOut_34 : decode cX7_worksOut 34 = .ok (.bipush 96, 2) := by decide +kernel
theorem dX7_worksOut_36 : decode cX7_worksOut 36 = .ok (.iload_n 1, 1) := by decide +kernel
theorem dX7_worksOut_37 : decode cX7_worksOut 37 = .ok (.imul, 1) := by decide +kernel
theorem dX7_worksOut_38 : decode cX7_worksOut 38 = .ok (.iadd, 1) := by decide +kernel
theorem dX7_worksOut_39 : decode cX7_worksOut 39 = .ok (.iload 4, 2) := by decide +kernel
theorem dX7_worksOut_41 : decode cX7_worksOut 41 = .ok (.iadd, 1) := by decide +kernel
theorem dX7_worksOut_42 : decode cX7_worksOut 42 = .ok (.iaload, 1) := by decide +kernel
theorem dX7_worksOut_43 : decode cX7_worksOut 43 = .ok (.istore 5, 2) := by decide +kernel
theorem dX7_worksOut_45 : decode cX7_worksOut 45 = .ok (.iload 5, 2) := by decide +kernel
theorem dX7_worksOut_47 : decode cX7_worksOut 47 = .ok (.ifCond .lt 39, 3) := by decide +kernel
theorem dX7_worksOut_50 : decode cX7_worksOut 50 = .ok (.aload_n 0, 1) := by decide +kernel
theorem dX7_worksOut_51 : decode cX7_worksOut 51 = .ok (.getfield 42, 3) := by decide +kernel
theorem dX7_worksOut_54 : decode cX7_worksOut 54 = .ok (.iload_n 2, 1) := by decide +kernel
theorem dX7_worksOut_55 : decode cX7_worksOut 55 = .ok (.iload 5, 2) := by decide +kernel
theorem dX7_worksOut_57 : decode cX7_worksOut 57 = .ok (.sipush 10000, 3) := by decide +kernel
theorem dX7_worksOut_60 : decode cX7_worksOut 60 = .ok (.if_icmp .ge 8, 3) := by decide +kernel
theorem dX7_worksOut_63 : decode cX7_worksOut 63 = .ok (.iload 5, 2) := by decide +kernel
theorem dX7_worksOut_65 : decode cX7_worksOut 65 = .ok (.goto 14, 3) := by decide +kernel
theorem dX7_worksOut_68 : decode cX7_worksOut 68 = .ok (.aload_n 0, 1) := by decide +kernel
theorem dX7_worksOut_69 : decode cX7_worksOut 69 = .ok (.getfield 45, 3) := by decide +kernel
theorem dX7_worksOut_72 : decode cX7_worksOut 72 = .ok (.iload 5, 2) := by decide +kernel
theorem dX7_worksOut_74 : decode cX7_worksOut 74 = .ok (.sipush 10000, 3) := by decide +kernel
theorem dX7_worksOut_77 : decode cX7_worksOut 77 = .ok (.isub, 1) := by decide +kernel
theorem dX7_worksOut_78 : decode cX7_worksOut 78 = .ok (.iaload, 1) := by decide +kernel
theorem dX7_worksOut_79 : decode cX7_worksOut 79 = .ok (.iastore, 1) := by decide +kernel
theorem dX7_worksOut_80 : decode cX7_worksOut 80 = .ok (.iinc 2 1, 3) := by decide +kernel
theorem dX7_worksOut_83 : decode cX7_worksOut 83 = .ok (.goto 67, 3) := by decide +kernel
theorem dX7_worksOut_86 : decode cX7_worksOut 86 = .ok (.iload 5, 2) := by decide +kernel
theorem dX7_worksOut_88 : decode cX7_worksOut 88 = .ok (.bipush (-10), 2) := by decide +kernel
theorem dX7_worksOut_90 : decode cX7_worksOut 90 = .ok (.if_icmp .ne 30, 3) := by decide +kernel
theorem dX7_worksOut_93 : decode cX7_worksOut 93 = .ok (.aload_n 0, 1) := by decide +kernel
theorem dX7_worksOut_94 : decode cX7_worksOut 94 = .ok (.getfield 42, 3) := by decide +kernel
theorem dX7_worksOut_97 : decode cX7_worksOut 97 = .ok (.iload_n 2, 1) := by decide +kernel
theorem dX7_worksOut_98 : decode cX7_worksOut 98 = .ok (.iconst 1, 1) := by decide +kernel
theorem dX7_worksOut_99 : decode cX7_worksOut 99 = .ok (.isub, 1) := by decide +kernel
theorem dX7_worksOut_100 : decode cX7_worksOut 100 = .ok (.aload_n 0, 1) := by decide +kernel
theorem dX7_worksOut_101 : decode cX7_worksOut 101 = .ok (.getfield 42, 3) := by decide +kernel
theorem dX7_worksOut_104 : decode cX7_worksOut 104 = .ok (.iload_n 2, 1) := by decide +kernel
theorem dX7_worksOut_105 : decode cX7_worksOut 105 = .ok (.iconst 1, 1) := by decide +kernel
theorem dX7_worksOut_106 : decode cX7_worksOut 106 = .ok (.isub, 1) := by decide +kernel
theorem dX7_worksOut_107 : decode cX7_worksOut 107 = .ok (.iaload, 1) := by decide +kernel
theorem dX7_worksOut_108 : decode cX7_worksOut 108 = .ok (.ifCond .ne 7, 3) := by decide +kernel
theorem dX7_worksOut_111 : decode cX7_worksOut 111 = .ok (.iconst 1, 1) := by decide +kernel
theorem dX7_worksOut_112 : decode cX7_worksOut 112 = .ok (.goto 4, 3) := by decide +kernel
theorem dX7_worksOut_115 : decode cX7_worksOut 115 = .ok (.iconst 0, 1) := by decide +kernel
theorem dX7_worksOut_116 : decode cX7_worksOut 116 = .ok (.iastore, 1) := by decide +kernel
theorem dX7_worksOut_117 : decode cX7_worksOut 117 = .ok (.goto 33, 3) := by decide +kernel
theorem dX7_worksOut_120 : decode cX7_worksOut 120 = .ok (.iinc 2 (-1), 3) := by decide +kernel
theorem dX7_worksOut_123 : decode cX7_worksOut 123 = .ok (.aload_n 0, 1) := by decide +kernel
theorem dX7_worksOut_124 : decode cX7_worksOut 124 = .ok (.getfield 42, 3) := by decide +kernel
theorem dX7_worksOut_127 : decode cX7_worksOut 127 = .ok (.iload_n 2, 1) := by decide +kernel
theorem dX7_worksOut_128 : decode cX7_worksOut 128 = .ok (.iconst 1, 1) := by decide +kernel
theorem dX7_worksOut_129 : decode cX7_worksOut 129 = .ok (.isub, 1) := by decide +kernel
theorem dX7_worksOut_130 : decode cX7_worksOut 130 = .ok (.iload 5, 2) := by decide +kernel
theorem dX7_worksOut_132 : decode cX7_worksOut 132 = .ok (.aload_n 0, 1) := by decide +kernel
theorem dX7_worksOut_133 : decode cX7_worksOut 133 = .ok (.getfield 42, 3) := by decide +kernel
theorem dX7_worksOut_136 : decode cX7_worksOut 136 = .ok (.iload_n 2, 1) := by decide +kernel
theorem dX7_worksOut_137 : decode cX7_worksOut 137 = .ok (.iconst 1, 1) := by decide +kernel
theorem dX7_worksOut_138 : decode cX7_worksOut 138 = .ok (.isub, 1) := by decide +kernel
theorem dX7_worksOut_139 : decode cX7_worksOut 139 = .ok (.iaload, 1) := by decide +kernel
theorem dX7_worksOut_140 : decode cX7_worksOut 140 = .ok (.aload_n 0, 1) := by decide +kernel
theorem dX7_worksOut_141 : decode cX7_worksOut 141 = .ok (.getfield 42, 3) := by decide +kernel
theorem dX7_worksOut_144 : decode cX7_worksOut 144 = .ok (.iload_n 2, 1) := by decide +kernel
theorem dX7_worksOut_145 : decode cX7_worksOut 145 = .ok (.iaload, 1) := by decide +kernel
theorem dX7_worksOut_146 : decode cX7_worksOut 146 = .ok (.invokestatic 251, 3) := by decide +kernel
theorem dX7_worksOut_149 : decode cX7_worksOut 149 = .ok (.iastore, 1) := by decide +kernel
theorem dX7_worksOut_150 : decode cX7_worksOut 150 = .ok (.iinc 4 1, 3) := by decide +kernel
theorem dX7_worksOut_153 : decode cX7_worksOut 153 = .ok (.goto (-132), 3) := by decide +kernel
theorem dX7_worksOut_156 : decode cX7_worksOut 156 = .ok (.aload_n 0, 1) := by decide +kernel
theorem dX7_worksOut_157 : decode cX7_worksOut 157 = .ok (.getfield 42, 3) := by decide +kernel
theorem dX7_worksOut_160 : decode cX7_worksOut 160 = .ok (.iconst 0, 1) := by decide +kernel
theorem dX7_worksOut_161 : decode cX7_worksOut 161 = .ok (.iaload, 1) := by decide +kernel
theorem dX7_worksOut_162 : decode cX7_worksOut 162 = .ok (.ireturn, 1) := by decide +kernel
def wpX7_worksOut_21 (C : CT) (I21 : Int32 → Int32 → Int32 → Int32 → Mem → Prop)  (x1 : Int32) (x2 : Int32) (x3 : Int32) (x4 : Int32) (V : Mem) (Q : Option AV → Mem → Prop) : Prop :=
  ((x3 ≤ x4 → Q (some (aI (V 35 0 0))) V) ∧ (¬ x3 ≤ x4 → (∃ j_1 : Nat, ((135 + (96 * x1)) + x4) = nI j_1 ∧ j_1 < 1479 ∧ (∀ z_2 : Int32, z_2 = (V 25 0 j_1) → ((z_2 < 0 → ((¬ z_2 = (-10) → (∃ j_3 : Nat, ((x2 + (-1)) - 1) = nI j_3 ∧ j_3 < 96 ∧ (∃ j_4 : Nat, x2 + (-1) = nI j_4 ∧ j_4 < 96 ∧ (cI C mX7_two [aI z_2, aI (V 35 0 j_3), aI (V 35 0 j_4)] V (fun x_6 V_5 => (∀ V_7 : Mem, V_7 = mu V_5 35 0 j_3 x_6 → I21 x1 (x2 + (-1)) x3 (x4 + 1) V_7)))))) ∧ (z_2 = (-10) → (∃ j_8 : Nat, (x2 - 1) = nI j_8 ∧ j_8 < 96 ∧ ((¬ (V 35 0 j_8) = 0 → (∀ V_9 : Mem, V_9 = mu V 35 0 j_8 0 → I21 x1 x2 x3 (x4 + 1) V_9)) ∧ ((V 35 0 j_8) = 0 → (∀ V_10 : Mem, V_10 = mu V 35 0 j_8 1 → I21 x1 x2 x3 (x4 + 1) V_10))))))) ∧ (¬ z_2 < 0 → ((10000 ≤ z_2 → (∃ j_13 : Nat, (z_2 - 10000) = nI j_13 ∧ j_13 < 4 ∧ (∃ j_14 : Nat, x2 = nI j_14 ∧ j_14 < 96 ∧ (∀ V_15 : Mem, V_15 = mu V 35 0 j_14 (V 36 0 j_13) → I21 x1 (x2 + 1) x3 (x4 + 1) V_15)))) ∧ (¬ 10000 ≤ z_2 → (∃ j_16 : Nat, x2 = nI j_16 ∧ j_16 < 96 ∧ (∀ V_17 : Mem, V_17 = mu V 35 0 j_16 z_2 → I21 x1 (x2 + 1) x3 (x4 + 1) V_17))))))))))
set_option maxRecDepth 10000 in
theorem okX7_worksOut_21 {d : Nat} {P : Option AV → Mem → Prop} {I21 : Int32 → Int32 → Int32 → Int32 → Mem → Prop}   (x1 : Int32) (x2 : Int32) (x3 : Int32) (x4 : Int32)  (V : Mem) (hk21 : ∀ (x1 : Int32) (x2 : Int32) (x3 : Int32) (x4 : Int32), ∀ (V : Mem), I21 x1 x2 x3 x4 V → Gq (Kp (d + 1) mX7_worksOut UM P) UM cX7_worksOut 6 RX7 21 [(0, aR 24 0), (1, aI x1), (2, aI x2), (3, aI x3), (4, aI x4)] [] V) (h : wpX7_worksOut_21 (Cl UM d) I21  x1 x2 x3 x4 V P) : Gq (Kp (d + 1) mX7_worksOut UM P) UM cX7_worksOut 6 RX7 21 [(0, aR 24 0), (1, aI x1), (2, aI x2), (3, aI x3), (4, aI x4)] [] V := by
  unfold wpX7_worksOut_21 at h
  refine go_iload (q := 4) dX7_worksOut_21 rfl ?_
  refine go_iload_n (q := 3) dX7_worksOut_23 rfl rfl ?_
  refine go_icmp_ge (tgt := 156) dX7_worksOut_24 (by decide) (fun c_20 => ?_) (fun c_20 => ?_)
  · have h := h.1 c_20
    refine go_aload_n (q := 0) dX7_worksOut_156 rfl rfl ?_
    refine go_getr fg_X7_42 dX7_worksOut_157 (mM (by decide) (by decide) rfl) ?_
    refine go_iconst (v := 0) dX7_worksOut_160 (by decide) ?_
    refine go_iald (r := 35) (n := 96) (j := 0) rfl (by decide) dX7_worksOut_161 (mM (by decide) (by decide) rfl) (by decide) (by decide) ?_
    exact go_iret rfl dX7_worksOut_162 h
  · have h := h.2 c_20
    refine go_aload_n (q := 0) dX7_worksOut_27 rfl rfl ?_
    refine go_getr fg_X7_9 dX7_worksOut_28 (mM (by decide) (by decide) rfl) ?_
    refine go_sipush (v := 135) dX7_worksOut_31 (by decide) ?_
    refine go_bipush (v := 96) dX7_worksOut_34 (by decide) ?_
    refine go_iload_n (q := 1) dX7_worksOut_36 rfl rfl ?_
    refine go_imul dX7_worksOut_37 ?_
    refine go_iadd dX7_worksOut_38 ?_
    refine go_iload (q := 4) dX7_worksOut_39 rfl ?_
    refine go_iadd dX7_worksOut_41 ?_
    obtain ⟨j_1, e_j_1, l_j_1, h⟩ := h
    refine go_iald (r := 25) (n := 1479) (j := j_1) rfl (by decide) dX7_worksOut_42 (mM (by decide) (by decide) rfl) e_j_1 l_j_1 ?_
    refine nmI (fun z_2 e_z_2 => ?_)
    have h := h z_2 e_z_2
    refine go_istore (al1 := [(5, aI z_2), (0, aR 24 0), (1, aI x1), (2, aI x2), (3, aI x3), (4, aI x4)]) dX7_worksOut_43 (by decide) rfl ?_
    refine go_iload (q := 0) dX7_worksOut_45 rfl ?_
    refine go_if_lt (tgt := 86) dX7_worksOut_47 (by decide) (fun c_19 => ?_) (fun c_19 => ?_)
    · have h := h.1 c_19
      refine go_iload (q := 0) dX7_worksOut_86 rfl ?_
      refine go_bipush (v := (-10)) dX7_worksOut_88 (by decide) ?_
      refine go_icmp_ne (tgt := 120) dX7_worksOut_90 (by decide) (fun c_12 => ?_) (fun c_12 => ?_)
      · have h := h.1 c_12
        refine go_iinc (q := 3) (y := (-1)) (al1 := [(2, aI (x2 + (-1))), (5, aI z_2), (0, aR 24 0), (1, aI x1), (3, aI x3), (4, aI x4)]) dX7_worksOut_120 rfl (by decide) (by decide) rfl ?_
        refine go_aload_n (q := 2) dX7_worksOut_123 rfl rfl ?_
        refine go_getr fg_X7_42 dX7_worksOut_124 (mM (by decide) (by decide) rfl) ?_
        refine go_iload_n (q := 0) dX7_worksOut_127 rfl rfl ?_
        refine go_iconst (v := 1) dX7_worksOut_128 (by decide) ?_
        refine go_isub dX7_worksOut_129 ?_
        refine go_iload (q := 1) dX7_worksOut_130 rfl ?_
        refine go_aload_n (q := 2) dX7_worksOut_132 rfl rfl ?_
        refine go_getr fg_X7_42 dX7_worksOut_133 (mM (by decide) (by decide) rfl) ?_
        refine go_iload_n (q := 0) dX7_worksOut_136 rfl rfl ?_
        refine go_iconst (v := 1) dX7_worksOut_137 (by decide) ?_
        refine go_isub dX7_worksOut_138 ?_
        obtain ⟨j_3, e_j_3, l_j_3, h⟩ := h
        refine go_iald (r := 35) (n := 96) (j := j_3) rfl (by decide) dX7_worksOut_139 (mM (by decide) (by decide) rfl) e_j_3 l_j_3 ?_
        refine go_aload_n (q := 2) dX7_worksOut_140 rfl rfl ?_
        refine go_getr fg_X7_42 dX7_worksOut_141 (mM (by decide) (by decide) rfl) ?_
        refine go_iload_n (q := 0) dX7_worksOut_144 rfl rfl ?_
        obtain ⟨j_4, e_j_4, l_j_4, h⟩ := h
        refine go_iald (r := 35) (n := 96) (j := j_4) rfl (by decide) dX7_worksOut_145 (mM (by decide) (by decide) rfl) e_j_4 l_j_4 ?_
        refine go_cSI (As := [aI z_2, aI (V 35 0 j_3), aI (V 35 0 j_4)]) (st := [aI ((x2 + (-1)) - 1), aR 35 0]) ms_X7_two dX7_worksOut_146 ml_X7_251 (hr_Kp (Nat.le_refl d)) rfl rfl (Nat.le_of_ble_eq_true rfl) h (fun x_6 V_5 h => ?_)
        refine go_iast (r := 35) (n := 96) (j := j_3) rfl (by decide) dX7_worksOut_149 (mM (by decide) (by decide) rfl) e_j_3 (by omega) ?_
        refine nmV (fun V_7 e_V_7 => ?_)
        have h := h V_7 e_V_7
        refine go_iinc (q := 5) (y := 1) (al1 := [(4, aI (x4 + 1)), (2, aI (x2 + (-1))), (5, aI z_2), (0, aR 24 0), (1, aI x1), (3, aI x3)]) dX7_worksOut_150 rfl (by decide) (by decide) rfl ?_
        refine go_goto (tgt := 21) dX7_worksOut_153 (by decide) ?_
        refine go_sub (al1 := [(0, aR 24 0), (1, aI x1), (2, aI (x2 + (-1))), (3, aI x3), (4, aI (x4 + 1))]) [3, 4, 1, 5, 0] rfl ?_
        exact hk21 x1 (x2 + (-1)) x3 (x4 + 1)  V_7 h
      · have h := h.2 c_12
        refine go_aload_n (q := 1) dX7_worksOut_93 rfl rfl ?_
        refine go_getr fg_X7_42 dX7_worksOut_94 (mM (by decide) (by decide) rfl) ?_
        refine go_iload_n (q := 3) dX7_worksOut_97 rfl rfl ?_
        refine go_iconst (v := 1) dX7_worksOut_98 (by decide) ?_
        refine go_isub dX7_worksOut_99 ?_
        refine go_aload_n (q := 1) dX7_worksOut_100 rfl rfl ?_
        refine go_getr fg_X7_42 dX7_worksOut_101 (mM (by decide) (by decide) rfl) ?_
        refine go_iload_n (q := 3) dX7_worksOut_104 rfl rfl ?_
        refine go_iconst (v := 1) dX7_worksOut_105 (by decide) ?_
        refine go_isub dX7_worksOut_106 ?_
        obtain ⟨j_8, e_j_8, l_j_8, h⟩ := h
        refine go_iald (r := 35) (n := 96) (j := j_8) rfl (by decide) dX7_worksOut_107 (mM (by decide) (by decide) rfl) e_j_8 l_j_8 ?_
        refine go_if_ne (tgt := 115) dX7_worksOut_108 (by decide) (fun c_11 => ?_) (fun c_11 => ?_)
        · have h := h.1 c_11
          refine go_iconst (v := 0) dX7_worksOut_115 (by decide) ?_
          refine go_iast (r := 35) (n := 96) (j := j_8) rfl (by decide) dX7_worksOut_116 (mM (by decide) (by decide) rfl) e_j_8 (by omega) ?_
          refine nmV (fun V_9 e_V_9 => ?_)
          have h := h V_9 e_V_9
          refine go_goto (tgt := 150) dX7_worksOut_117 (by decide) ?_
          refine go_iinc (q := 5) (y := 1) (al1 := [(4, aI (x4 + 1)), (5, aI z_2), (0, aR 24 0), (1, aI x1), (2, aI x2), (3, aI x3)]) dX7_worksOut_150 rfl (by decide) (by decide) rfl ?_
          refine go_goto (tgt := 21) dX7_worksOut_153 (by decide) ?_
          refine go_sub (al1 := [(0, aR 24 0), (1, aI x1), (2, aI x2), (3, aI x3), (4, aI (x4 + 1))]) [2, 3, 4, 5, 0] rfl ?_
          exact hk21 x1 x2 x3 (x4 + 1)  V_9 h
        · have h := h.2 c_11
          refine go_iconst (v := 1) dX7_worksOut_111 (by decide) ?_
          refine go_goto (tgt := 116) dX7_worksOut_112 (by decide) ?_
          refine go_iast (r := 35) (n := 96) (j := j_8) rfl (by decide) dX7_worksOut_116 (mM (by decide) (by decide) rfl) e_j_8 (by omega) ?_
          refine nmV (fun V_10 e_V_10 => ?_)
          have h := h V_10 e_V_10
          refine go_goto (tgt := 150) dX7_worksOut_117 (by decide) ?_
          refine go_iinc (q := 5) (y := 1) (al1 := [(4, aI (x4 + 1)), (5, aI z_2), (0, aR 24 0), (1, aI x1), (2, aI x2), (3, aI x3)]) dX7_worksOut_150 rfl (by decide) (by decide) rfl ?_
          refine go_goto (tgt := 21) dX7_worksOut_153 (by decide) ?_
          refine go_sub (al1 := [(0, aR 24 0), (1, aI x1), (2, aI x2), (3, aI x3), (4, aI (x4 + 1))]) [2, 3, 4, 5, 0] rfl ?_
          exact hk21 x1 x2 x3 (x4 + 1)  V_10 h
    · have h := h.2 c_19
      refine go_aload_n (q := 1) dX7_worksOut_50 rfl rfl ?_
      refine go_getr fg_X7_42 dX7_worksOut_51 (mM (by decide) (by decide) rfl) ?_
      refine go_iload_n (q := 3) dX7_worksOut_54 rfl rfl ?_
      refine go_iload (q := 0) dX7_worksOut_55 rfl ?_
      refine go_sipush (v := 10000) dX7_worksOut_57 (by decide) ?_
      refine go_icmp_ge (tgt := 68) dX7_worksOut_60 (by decide) (fun c_18 => ?_) (fun c_18 => ?_)
      · have h := h.1 c_18
        refine go_aload_n (q := 1) dX7_worksOut_68 rfl rfl ?_
        refine go_getr fg_X7_45 dX7_worksOut_69 (mM (by decide) (by decide) rfl) ?_
        refine go_iload (q := 0) dX7_worksOut_72 rfl ?_
        refine go_sipush (v := 10000) dX7_worksOut_74 (by decide) ?_
        refine go_isub dX7_worksOut_77 ?_
        obtain ⟨j_13, e_j_13, l_j_13, h⟩ := h
        refine go_iald (r := 36) (n := 4) (j := j_13) rfl (by decide) dX7_worksOut_78 (mM (by decide) (by decide) rfl) e_j_13 l_j_13 ?_
        obtain ⟨j_14, e_j_14, l_j_14, h⟩ := h
        refine go_iast (r := 35) (n := 96) (j := j_14) rfl (by decide) dX7_worksOut_79 (mM (by decide) (by decide) rfl) e_j_14 l_j_14 ?_
        refine nmV (fun V_15 e_V_15 => ?_)
        have h := h V_15 e_V_15
        refine go_iinc (q := 3) (y := 1) (al1 := [(2, aI (x2 + 1)), (5, aI z_2), (0, aR 24 0), (1, aI x1), (3, aI x3), (4, aI x4)]) dX7_worksOut_80 rfl (by decide) (by decide) rfl ?_
        refine go_goto (tgt := 150) dX7_worksOut_83 (by decide) ?_
        refine go_iinc (q := 5) (y := 1) (al1 := [(4, aI (x4 + 1)), (2, aI (x2 + 1)), (5, aI z_2), (0, aR 24 0), (1, aI x1), (3, aI x3)]) dX7_worksOut_150 rfl (by decide) (by decide) rfl ?_
        refine go_goto (tgt := 21) dX7_worksOut_153 (by decide) ?_
        refine go_sub (al1 := [(0, aR 24 0), (1, aI x1), (2, aI (x2 + 1)), (3, aI x3), (4, aI (x4 + 1))]) [3, 4, 1, 5, 0] rfl ?_
        exact hk21 x1 (x2 + 1) x3 (x4 + 1)  V_15 h
      · have h := h.2 c_18
        refine go_iload (q := 0) dX7_worksOut_63 rfl ?_
        refine go_goto (tgt := 79) dX7_worksOut_65 (by decide) ?_
        obtain ⟨j_16, e_j_16, l_j_16, h⟩ := h
        refine go_iast (r := 35) (n := 96) (j := j_16) rfl (by decide) dX7_worksOut_79 (mM (by decide) (by decide) rfl) e_j_16 l_j_16 ?_
        refine nmV (fun V_17 e_V_17 => ?_)
        have h := h V_17 e_V_17
        refine go_iinc (q := 3) (y := 1) (al1 := [(2, aI (x2 + 1)), (5, aI z_2), (0, aR 24 0), (1, aI x1), (3, aI x3), (4, aI x4)]) dX7_worksOut_80 rfl (by decide) (by decide) rfl ?_
        refine go_goto (tgt := 150) dX7_worksOut_83 (by decide) ?_
        refine go_iinc (q := 5) (y := 1) (al1 := [(4, aI (x4 + 1)), (2, aI (x2 + 1)), (5, aI z_2), (0, aR 24 0), (1, aI x1), (3, aI x3)]) dX7_worksOut_150 rfl (by decide) (by decide) rfl ?_
        refine go_goto (tgt := 21) dX7_worksOut_153 (by decide) ?_
        refine go_sub (al1 := [(0, aR 24 0), (1, aI x1), (2, aI (x2 + 1)), (3, aI x3), (4, aI (x4 + 1))]) [3, 4, 1, 5, 0] rfl ?_
        exact hk21 x1 (x2 + 1) x3 (x4 + 1)  V_17 h
def wpX7_worksOut_0 (C : CT) (I21 : Int32 → Int32 → Int32 → Int32 → Mem → Prop)  (x1 : Int32) (V : Mem) (Q : Option AV → Mem → Prop) : Prop :=
  (∃ j_1 : Nat, (107 + (2 * x1)) = nI j_1 ∧ j_1 < 1479 ∧ (∀ z_2 : Int32, z_2 = ((V 25 0 j_1) - (V 25 0 j_1) / 1000 * 1000) → I21 x1 0 z_2 0 V))
set_option maxRecDepth 10000 in
theorem okX7_worksOut_0 {d : Nat} {P : Option AV → Mem → Prop} {I21 : Int32 → Int32 → Int32 → Int32 → Mem → Prop}   (x1 : Int32)  (V : Mem) (hk21 : ∀ (x1 : Int32) (x2 : Int32) (x3 : Int32) (x4 : Int32), ∀ (V : Mem), I21 x1 x2 x3 x4 V → Gq (Kp (d + 1) mX7_worksOut UM P) UM cX7_worksOut 6 RX7 21 [(0, aR 24 0), (1, aI x1), (2, aI x2), (3, aI x3), (4, aI x4)] [] V) (h : wpX7_worksOut_0 (Cl UM d) I21  x1 V P) : Gq (Kp (d + 1) mX7_worksOut UM P) UM cX7_worksOut 6 RX7 0 [(0, aR 24 0), (1, aI x1)] [] V := by
  unfold wpX7_worksOut_0 at h
  refine go_iconst (v := 0) dX7_worksOut_0 (by decide) ?_
  refine go_istore_n (al1 := [(2, aI 0), (0, aR 24 0), (1, aI x1)]) dX7_worksOut_1 rfl (by decide) rfl ?_
  refine go_aload_n (q := 1) dX7_worksOut_2 rfl rfl ?_
  refine go_getr fg_X7_9 dX7_worksOut_3 (mM (by decide) (by decide) rfl) ?_
  refine go_bipush (v := 107) dX7_worksOut_6 (by decide) ?_
  refine go_iconst (v := 2) dX7_worksOut_8 (by decide) ?_
  refine go_iload_n (q := 2) dX7_worksOut_9 rfl rfl ?_
  refine go_imul dX7_worksOut_10 ?_
  refine go_iadd dX7_worksOut_11 ?_
  obtain ⟨j_1, e_j_1, l_j_1, h⟩ := h
  refine go_iald (r := 25) (n := 1479) (j := j_1) rfl (by decide) dX7_worksOut_12 (mM (by decide) (by decide) rfl) e_j_1 l_j_1 ?_
  refine go_sipush (v := 1000) dX7_worksOut_13 (by decide) ?_
  refine go_irem dX7_worksOut_16 (by decide) ?_
  refine nmI (fun z_2 e_z_2 => ?_)
  have h := h z_2 e_z_2
  refine go_istore_n (al1 := [(3, aI z_2), (2, aI 0), (0, aR 24 0), (1, aI x1)]) dX7_worksOut_17 rfl (by decide) rfl ?_
  refine go_iconst (v := 0) dX7_worksOut_18 (by decide) ?_
  refine go_istore (al1 := [(4, aI 0), (3, aI z_2), (2, aI 0), (0, aR 24 0), (1, aI x1)]) dX7_worksOut_19 (by decide) rfl ?_
  refine go_sub (al1 := [(0, aR 24 0), (1, aI x1), (2, aI 0), (3, aI z_2), (4, aI 0)]) [3, 4, 2, 1, 0] rfl ?_
  exact hk21 x1 0 z_2 0  V h
theorem clX7_worksOut {d : Nat} {P : Option AV → Mem → Prop} {I21 : Int32 → Int32 → Int32 → Int32 → Mem → Prop}   (x1 : Int32) (V : Mem) (hk21 : ∀ (x1 : Int32) (x2 : Int32) (x3 : Int32) (x4 : Int32), ∀ (V : Mem), I21 x1 x2 x3 x4 V → Gq (Kp (d + 1) mX7_worksOut UM P) UM cX7_worksOut 6 RX7 21 [(0, aR 24 0), (1, aI x1), (2, aI x2), (3, aI x3), (4, aI x4)] [] V) (h : wpX7_worksOut_0 (Cl UM d) I21  x1 V P) : Cl UM (d + 1) mX7_worksOut [aR 24 0, aI x1] V P :=
  cl_of [(0, aR 24 0), (1, aI x1)] (by decide) (fun _ => Nat.le_of_ble_eq_true rfl) (fun _ => rfl) (okX7_worksOut_0   x1 V hk21 h)
theorem dX7_isSheet_0 : decode cX7_isSheet 0 = .ok (.iload_n 0, 1) := by decide +kernel
theorem dX7_isSheet_1 : decode cX7_isSheet 1 = .ok (.iconst 0, 1) := by decide +kernel
theorem dX7_isSheet_2 : decode cX7_isSheet 2 = .ok (.iconst 3, 1) := by decide +kernel
theorem dX7_isSheet_3 : decode cX7_isSheet 3 = .ok (.invokestatic 76, 3) := by decide +kernel
theorem dX7_isSheet_6 : decode cX7_isSheet 6 = .ok (.ireturn, 1) := by decide +kernel
def wpX7_isSheet_0 (C : CT)   (x0 : Int32) (V : Mem) (Q : Option AV → Mem → Prop) : Prop :=
  (cI C mX7_in [aI x0, aI 0, aI 3] V (fun x_2 V_1 => ((x_2 = 0 ∨ x_2 = 1) ∧ Q (some (aI x_2)) V_1)))
set_option maxRecDepth 10000 in
theorem okX7_isSheet_0 {d : Nat} {P : Option AV → Mem → Prop}    (x0 : Int32)  (V : Mem)  (h : wpX7_isSheet_0 (Cl UM d)   x0 V P) : Gq (Kp (d + 1) mX7_isSheet UM P) UM cX7_isSheet 1 RX7 0 [(0, aI x0)] [] V := by
  unfold wpX7_isSheet_0 at h
  refine go_iload_n (q := 0) dX7_isSheet_0 rfl rfl ?_
  refine go_iconst (v := 0) dX7_isSheet_1 (by decide) ?_
  refine go_iconst (v := 3) dX7_isSheet_2 (by decide) ?_
  refine go_cSI (As := [aI x0, aI 0, aI 3]) (st := []) ms_X7_in dX7_isSheet_3 ml_X7_76 (hr_Kp (Nat.le_refl d)) rfl rfl (Nat.le_of_ble_eq_true rfl) h (fun x_2 V_1 h => ?_)
  exact go_bret rfl dX7_isSheet_6 h.1 h.2
theorem clX7_isSheet {d : Nat} {P : Option AV → Mem → Prop}    (x0 : Int32) (V : Mem)  (h : wpX7_isSheet_0 (Cl UM d)   x0 V P) : Cl UM (d + 1) mX7_isSheet [aI x0] V P :=
  cl_of [(0, aI x0)] (by decide) (fun _ => Nat.le_of_ble_eq_true rfl) (fun _ => rfl) (okX7_isSheet_0   x0 V  h)
theorem dX7_isSlot_0 : decode cX7_isSlot 0 = .ok (.iload_n 0, 1) := by decide +kernel
theorem dX7_isSlot_1 : decode cX7_isSlot 1 = .ok (.iconst 0, 1) := by decide +kernel
theorem dX7_isSlot_2 : decode cX7_isSlot 2 = .ok (.iconst 4, 1) := by decide +kernel
theorem dX7_isSlot_3 : decode cX7_isSlot 3 = .ok (.invokestatic 76, 3) := by decide +kernel
theorem dX7_isSlot_6 : decode cX7_isSlot 6 = .ok (.ireturn, 1) := by decide +kernel
def wpX7_isSlot_0 (C : CT)   (x0 : Int32) (V : Mem) (Q : Option AV → Mem → Prop) : Prop :=
  (cI C mX7_in [aI x0, aI 0, aI 4] V (fun x_2 V_1 => ((x_2 = 0 ∨ x_2 = 1) ∧ Q (some (aI x_2)) V_1)))
set_option maxRecDepth 10000 in
theorem okX7_isSlot_0 {d : Nat} {P : Option AV → Mem → Prop}    (x0 : Int32)  (V : Mem)  (h : wpX7_isSlot_0 (Cl UM d)   x0 V P) : Gq (Kp (d + 1) mX7_isSlot UM P) UM cX7_isSlot 1 RX7 0 [(0, aI x0)] [] V := by
  unfold wpX7_isSlot_0 at h
  refine go_iload_n (q := 0) dX7_isSlot_0 rfl rfl ?_
  refine go_iconst (v := 0) dX7_isSlot_1 (by decide) ?_
  refine go_iconst (v := 4) dX7_isSlot_2 (by decide) ?_
  refine go_cSI (As := [aI x0, aI 0, aI 4]) (st := []) ms_X7_in dX7_isSlot_3 ml_X7_76 (hr_Kp (Nat.le_refl d)) rfl rfl (Nat.le_of_ble_eq_true rfl) h (fun x_2 V_1 h => ?_)
  exact go_bret rfl dX7_isSlot_6 h.1 h.2
theorem clX7_isSlot {d : Nat} {P : Option AV → Mem → Prop}    (x0 : Int32) (V : Mem)  (h : wpX7_isSlot_0 (Cl UM d)   x0 V P) : Cl UM (d + 1) mX7_isSlot [aI x0] V P :=
  cl_of [(0, aI x0)] (by decide) (fun _ => Nat.le_of_ble_eq_true rfl) (fun _ => rfl) (okX7_isSlot_0   x0 V  h)
theorem dX7_sheet_0 : decode cX7_sheet 0 = .ok (.iload_n 1, 1) := by decide +kernel
theorem dX7_sheet_1 : decode cX7_sheet 1 = .ok (.invokestatic 177, 3) := by decide +kernel
theorem dX7_sheet_4 : decode cX7_sheet 4 = .ok (.ifCond .eq 22, 3) := by decide +kernel
theorem dX7_sheet_7 : decode cX7_sheet 7 = .ok (.iload_n 2, 1) := by decide +kernel
theorem dX7_sheet_8 : decode cX7_sheet 8 = .ok (.iconst (-1), 1) := by decide +kernel
theorem dX7_sheet_9 : decode cX7_sheet 9 = .ok (.iconst 1, 1) := by decide +kernel
theorem dX7_sheet_10 : decode cX7_sheet 10 = .ok (.invokestatic 76, 3) := by decide +kernel
theorem dX7_sheet_13 : decode cX7_sheet 13 = .ok (.ifCond .eq 13, 3) := by decide +kernel
theorem dX7_sheet_16 : decode cX7_sheet 16 = .ok (.iload_n 2, 1) := by decide +kernel
theorem dX7_sheet_17 : decode cX7_sheet 17 = .ok (.ifCond .lt 12, 3) := by decide +kernel
theorem dX7_sheet_20 : decode cX7_sheet 20 = .ok (.iload_n 3, 1) := by decide +kernel
theorem dX7_sheet_21 : decode cX7_sheet 21 = .ok (.bipush 24, 2) := by decide +kernel
theorem dX7_sheet_23 : decode cX7_sheet 23 = .ok (.if_icmp .le 6, 3) := by decide +kernel
theorem dX7_sheet_26 : decode cX7_sheet 26 = .ok (.ldc 84, 2) := by decide +kernel
theorem dX7_sheet_28 : decode cX7_sheet 28 = .ok (.ireturn, 1) := by decide +kernel
theorem dX7_sheet_29 : decode cX7_sheet 29 = .ok (.iload_n 2, 1) := by decide +kernel
theorem dX7_sheet_30 : decode cX7_sheet 30 = .ok (.ifCond .lt 10, 3) := by decide +kernel
theorem dX7_sheet_33 : decode cX7_sheet 33 = .ok (.iload_n 3, 1) := by decide +kernel
theorem dX7_sheet_34 : decode cX7_sheet 34 = .ok (.ifCond .ge 6, 3) := by decide +kernel
theorem dX7_sheet_37 : decode cX7_sheet 37 = .ok (.ldc 254, 2) := by decide +kernel
theorem dX7_sheet_39 : decode cX7_sheet 39 = .ok (.ireturn, 1) := by decide +kernel
theorem dX7_sheet_40 : decode cX7_sheet 40 = .ok (.aload_n 0, 1) := by decide +kernel
theorem dX7_sheet_41 : decode cX7_sheet 41 = .ok (.getfield 48, 3) := by decide +kernel
theorem dX7_sheet_44 : decode cX7_sheet 44 = .ok (.iload_n 1, 1) := by decide +kernel
theorem dX7_sheet_45 : decode cX7_sheet 45 = .ok (.iload_n 2, 1) := by decide +kernel
theorem dX7_sheet_46 : decode cX7_sheet 46 = .ok (.iastore, 1) := by decide +kernel
theorem dX7_sheet_47 : decode cX7_sheet 47 = .ok (.aload_n 0, 1) := by decide +kernel
theorem dX7_sheet_48 : decode cX7_sheet 48 = .ok (.getfield 51, 3) := by decide +kernel
theorem dX7_sheet_51 : decode cX7_sheet 51 = .ok (.iload_n 1, 1) := by decide +kernel
theorem dX7_sheet_52 : decode cX7_sheet 52 = .ok (.iload_n 2, 1) := by decide +kernel
theorem dX7_sheet_53 : decode cX7_sheet 53 = .ok (.ifCond .ge 7, 3) := by decide +kernel
theorem dX7_sheet_56 : decode cX7_sheet 56 = .ok (.iconst 0, 1) := by decide +kernel
theorem dX7_sheet_57 : decode cX7_sheet 57 = .ok (.goto 4, 3) := by decide +kernel
theorem dX7_sheet_60 : decode cX7_sheet 60 = .ok (.iload_n 3, 1) := by decide +kernel
theorem dX7_sheet_61 : decode cX7_sheet 61 = .ok (.iastore, 1) := by decide +kernel
theorem dX7_sheet_62 : decode cX7_sheet 62 = .ok (.iconst 0, 1) := by decide +kernel
theorem dX7_sheet_63 : decode cX7_sheet 63 = .ok (.istore 4, 2) := by decide +kernel
theorem dX7_sheet_65 : decode cX7_sheet 65 = .ok (.iload 4, 2) := by decide +kernel
theorem dX7_sheet_67 : decode cX7_sheet 67 = .ok (.bipush 24, 2) := by decide +kernel
theorem dX7_sheet_69 : decode cX7_sheet 69 = .ok (.if_icmp .ge 22, 3) := by decide +kernel
theorem dX7_sheet_72 : decode cX7_sheet 72 = .ok (.aload_n 0, 1) := by decide +kernel
theorem dX7_sheet_73 : decode cX7_sheet 73 = .ok (.getfield 54, 3) := by decide +kernel
theorem dX7_sheet_76 : decode cX7_sheet 76 = .ok (.bipush 24, 2) := by decide +kernel
theorem dX7_sheet_78 : decode cX7_sheet 78 = .ok (.iload_n 1, 1) := by decide +kernel
theorem dX7_sheet_79 : decode cX7_sheet 79 = .ok (.imul, 1) := by decide +kernel
theorem dX7_sheet_80 : decode cX7_sheet 80 = .ok (.iload 4, 2) := by decide +kernel
theorem dX7_sheet_82 : decode cX7_sheet 82 = .ok (.iadd, 1) := by decide +kernel
theorem dX7_sheet_83 : decode cX7_sheet 83 = .ok (.iconst 0, 1) := by decide +kernel
theorem dX7_sheet_84 : decode cX7_sheet 84 = .ok (.iastore, 1) := by decide +kernel
theorem dX7_sheet_85 : decode cX7_sheet 85 = .ok (.iinc 4 1, 3) := by decide +kernel
theorem dX7_sheet_88 : decode cX7_sheet 88 = .ok (.goto (-23), 3) := by decide +kernel
theorem dX7_sheet_91 : decode cX7_sheet 91 = .ok (.aload_n 0, 1) := by decide +kernel
theorem dX7_sheet_92 : decode cX7_sheet 92 = .ok (.getfield 51, 3) := by decide +kernel
theorem dX7_sheet_95 : decode cX7_sheet 95 = .ok (.iload_n 1, 1) := by decide +kernel
theorem dX7_sheet_96 : decode cX7_sheet 96 = .ok (.iaload, 1) := by decide +kernel
theorem dX7_sheet_97 : decode cX7_sheet 97 = .ok (.ireturn, 1) := by decide +kernel
def wpX7_sheet_65 (C : CT) (I65 : Int32 → Int32 → Int32 → Int32 → Mem → Prop)  (x1 : Int32) (x2 : Int32) (x3 : Int32) (x4 : Int32) (V : Mem) (Q : Option AV → Mem → Prop) : Prop :=
  ((24 ≤ x4 → (∃ j_1 : Nat, x1 = nI j_1 ∧ j_1 < 4 ∧ Q (some (aI (V 38 0 j_1))) V)) ∧ (¬ 24 ≤ x4 → (∃ j_2 : Nat, ((24 * x1) + x4) = nI j_2 ∧ j_2 < 96 ∧ (∀ V_3 : Mem, V_3 = mu V 39 0 j_2 0 → I65 x1 x2 x3 (x4 + 1) V_3))))
set_option maxRecDepth 10000 in
theorem okX7_sheet_65 {d : Nat} {P : Option AV → Mem → Prop} {I65 : Int32 → Int32 → Int32 → Int32 → Mem → Prop}   (x1 : Int32) (x2 : Int32) (x3 : Int32) (x4 : Int32)  (V : Mem) (hk65 : ∀ (x1 : Int32) (x2 : Int32) (x3 : Int32) (x4 : Int32), ∀ (V : Mem), I65 x1 x2 x3 x4 V → Gq (Kp (d + 1) mX7_sheet UM P) UM cX7_sheet 5 RX7 65 [(0, aR 24 0), (1, aI x1), (2, aI x2), (3, aI x3), (4, aI x4)] [] V) (h : wpX7_sheet_65 (Cl UM d) I65  x1 x2 x3 x4 V P) : Gq (Kp (d + 1) mX7_sheet UM P) UM cX7_sheet 5 RX7 65 [(0, aR 24 0), (1, aI x1), (2, aI x2), (3, aI x3), (4, aI x4)] [] V := by
  unfold wpX7_sheet_65 at h
  refine go_iload (q := 4) dX7_sheet_65 rfl ?_
  refine go_bipush (v := 24) dX7_sheet_67 (by decide) ?_
  refine go_icmp_ge (tgt := 91) dX7_sheet_69 (by decide) (fun c_4 => ?_) (fun c_4 => ?_)
  · have h := h.1 c_4
    refine go_aload_n (q := 0) dX7_sheet_91 rfl rfl ?_
    refine go_getr fg_X7_51 dX7_sheet_92 (mM (by decide) (by decide) rfl) ?_
    refine go_iload_n (q := 1) dX7_sheet_95 rfl rfl ?_
    obtain ⟨j_1, e_j_1, l_j_1, h⟩ := h
    refine go_iald (r := 38) (n := 4) (j := j_1) rfl (by decide) dX7_sheet_96 (mM (by decide) (by decide) rfl) e_j_1 l_j_1 ?_
    exact go_iret rfl dX7_sheet_97 h
  · have h := h.2 c_4
    refine go_aload_n (q := 0) dX7_sheet_72 rfl rfl ?_
    refine go_getr fg_X7_54 dX7_sheet_73 (mM (by decide) (by decide) rfl) ?_
    refine go_bipush (v := 24) dX7_sheet_76 (by decide) ?_
    refine go_iload_n (q := 1) dX7_sheet_78 rfl rfl ?_
    refine go_imul dX7_sheet_79 ?_
    refine go_iload (q := 4) dX7_sheet_80 rfl ?_
    refine go_iadd dX7_sheet_82 ?_
    refine go_iconst (v := 0) dX7_sheet_83 (by decide) ?_
    obtain ⟨j_2, e_j_2, l_j_2, h⟩ := h
    refine go_iast (r := 39) (n := 96) (j := j_2) rfl (by decide) dX7_sheet_84 (mM (by decide) (by decide) rfl) e_j_2 l_j_2 ?_
    refine nmV (fun V_3 e_V_3 => ?_)
    have h := h V_3 e_V_3
    refine go_iinc (q := 4) (y := 1) (al1 := [(4, aI (x4 + 1)), (0, aR 24 0), (1, aI x1), (2, aI x2), (3, aI x3)]) dX7_sheet_85 rfl (by decide) (by decide) rfl ?_
    refine go_goto (tgt := 65) dX7_sheet_88 (by decide) ?_
    refine go_sub (al1 := [(0, aR 24 0), (1, aI x1), (2, aI x2), (3, aI x3), (4, aI (x4 + 1))]) [1, 2, 3, 4, 0] rfl ?_
    exact hk65 x1 x2 x3 (x4 + 1)  V_3 h
def wpX7_sheet_40 (C : CT) (I65 : Int32 → Int32 → Int32 → Int32 → Mem → Prop)  (x1 : Int32) (x2 : Int32) (x3 : Int32) (V : Mem) (Q : Option AV → Mem → Prop) : Prop :=
  (∃ j_1 : Nat, x1 = nI j_1 ∧ j_1 < 4 ∧ (∀ V_2 : Mem, V_2 = mu V 37 0 j_1 x2 → ((0 ≤ x2 → (∀ V_3 : Mem, V_3 = mu V_2 38 0 j_1 x3 → I65 x1 x2 x3 0 V_3)) ∧ (¬ 0 ≤ x2 → (∀ V_4 : Mem, V_4 = mu V_2 38 0 j_1 0 → I65 x1 x2 x3 0 V_4)))))
set_option maxRecDepth 10000 in
theorem okX7_sheet_40 {d : Nat} {P : Option AV → Mem → Prop} {I65 : Int32 → Int32 → Int32 → Int32 → Mem → Prop}   (x1 : Int32) (x2 : Int32) (x3 : Int32)  (V : Mem) (hk65 : ∀ (x1 : Int32) (x2 : Int32) (x3 : Int32) (x4 : Int32), ∀ (V : Mem), I65 x1 x2 x3 x4 V → Gq (Kp (d + 1) mX7_sheet UM P) UM cX7_sheet 5 RX7 65 [(0, aR 24 0), (1, aI x1), (2, aI x2), (3, aI x3), (4, aI x4)] [] V) (h : wpX7_sheet_40 (Cl UM d) I65  x1 x2 x3 V P) : Gq (Kp (d + 1) mX7_sheet UM P) UM cX7_sheet 5 RX7 40 [(0, aR 24 0), (1, aI x1), (2, aI x2), (3, aI x3)] [] V := by
  unfold wpX7_sheet_40 at h
  refine go_aload_n (q := 0) dX7_sheet_40 rfl rfl ?_
  refine go_getr fg_X7_48 dX7_sheet_41 (mM (by decide) (by decide) rfl) ?_
  refine go_iload_n (q := 1) dX7_sheet_44 rfl rfl ?_
  refine go_iload_n (q := 2) dX7_sheet_45 rfl rfl ?_
  obtain ⟨j_1, e_j_1, l_j_1, h⟩ := h
  refine go_iast (r := 37) (n := 4) (j := j_1) rfl (by decide) dX7_sheet_46 (mM (by decide) (by decide) rfl) e_j_1 l_j_1 ?_
  refine nmV (fun V_2 e_V_2 => ?_)
  have h := h V_2 e_V_2
  refine go_aload_n (q := 0) dX7_sheet_47 rfl rfl ?_
  refine go_getr fg_X7_51 dX7_sheet_48 (mM (by decide) (by decide) rfl) ?_
  refine go_iload_n (q := 1) dX7_sheet_51 rfl rfl ?_
  refine go_iload_n (q := 2) dX7_sheet_52 rfl rfl ?_
  refine go_if_ge (tgt := 60) dX7_sheet_53 (by decide) (fun c_5 => ?_) (fun c_5 => ?_)
  · have h := h.1 c_5
    refine go_iload_n (q := 3) dX7_sheet_60 rfl rfl ?_
    refine go_iast (r := 38) (n := 4) (j := j_1) rfl (by decide) dX7_sheet_61 (mM (by decide) (by decide) rfl) e_j_1 (by omega) ?_
    refine nmV (fun V_3 e_V_3 => ?_)
    have h := h V_3 e_V_3
    refine go_iconst (v := 0) dX7_sheet_62 (by decide) ?_
    refine go_istore (al1 := [(4, aI 0), (0, aR 24 0), (1, aI x1), (2, aI x2), (3, aI x3)]) dX7_sheet_63 (by decide) rfl ?_
    refine go_sub (al1 := [(0, aR 24 0), (1, aI x1), (2, aI x2), (3, aI x3), (4, aI 0)]) [1, 2, 3, 4, 0] rfl ?_
    exact hk65 x1 x2 x3 0  V_3 h
  · have h := h.2 c_5
    refine go_iconst (v := 0) dX7_sheet_56 (by decide) ?_
    refine go_goto (tgt := 61) dX7_sheet_57 (by decide) ?_
    refine go_iast (r := 38) (n := 4) (j := j_1) rfl (by decide) dX7_sheet_61 (mM (by decide) (by decide) rfl) e_j_1 (by omega) ?_
    refine nmV (fun V_4 e_V_4 => ?_)
    have h := h V_4 e_V_4
    refine go_iconst (v := 0) dX7_sheet_62 (by decide) ?_
    refine go_istore (al1 := [(4, aI 0), (0, aR 24 0), (1, aI x1), (2, aI x2), (3, aI x3)]) dX7_sheet_63 (by decide) rfl ?_
    refine go_sub (al1 := [(0, aR 24 0), (1, aI x1), (2, aI x2), (3, aI x3), (4, aI 0)]) [1, 2, 3, 4, 0] rfl ?_
    exact hk65 x1 x2 x3 0  V_4 h
def wpX7_sheet_29 (C : CT) (I65 : Int32 → Int32 → Int32 → Int32 → Mem → Prop)  (x1 : Int32) (x2 : Int32) (x3 : Int32) (V : Mem) (Q : Option AV → Mem → Prop) : Prop :=
  ((x2 < 0 → wpX7_sheet_40 C I65  x1 x2 x3 V Q) ∧ (¬ x2 < 0 → ((0 ≤ x3 → wpX7_sheet_40 C I65  x1 x2 x3 V Q) ∧ (¬ 0 ≤ x3 → Q (some (aI (-1000000014))) V))))
set_option maxRecDepth 10000 in
theorem okX7_sheet_29 {d : Nat} {P : Option AV → Mem → Prop} {I65 : Int32 → Int32 → Int32 → Int32 → Mem → Prop}   (x1 : Int32) (x2 : Int32) (x3 : Int32)  (V : Mem) (hk65 : ∀ (x1 : Int32) (x2 : Int32) (x3 : Int32) (x4 : Int32), ∀ (V : Mem), I65 x1 x2 x3 x4 V → Gq (Kp (d + 1) mX7_sheet UM P) UM cX7_sheet 5 RX7 65 [(0, aR 24 0), (1, aI x1), (2, aI x2), (3, aI x3), (4, aI x4)] [] V) (h : wpX7_sheet_29 (Cl UM d) I65  x1 x2 x3 V P) : Gq (Kp (d + 1) mX7_sheet UM P) UM cX7_sheet 5 RX7 29 [(0, aR 24 0), (1, aI x1), (2, aI x2), (3, aI x3)] [] V := by
  unfold wpX7_sheet_29 at h
  refine go_iload_n (q := 2) dX7_sheet_29 rfl rfl ?_
  refine go_if_lt (tgt := 40) dX7_sheet_30 (by decide) (fun c_2 => ?_) (fun c_2 => ?_)
  · have h := h.1 c_2
    exact okX7_sheet_40   x1 x2 x3  V hk65 h
  · have h := h.2 c_2
    refine go_iload_n (q := 3) dX7_sheet_33 rfl rfl ?_
    refine go_if_ge (tgt := 40) dX7_sheet_34 (by decide) (fun c_1 => ?_) (fun c_1 => ?_)
    · have h := h.1 c_1
      exact okX7_sheet_40   x1 x2 x3  V hk65 h
    · have h := h.2 c_1
      refine go_ldc dX7_sheet_37 ct_X7_254 ?_
      exact go_iret rfl dX7_sheet_39 h
def wpX7_sheet_0 (C : CT) (I65 : Int32 → Int32 → Int32 → Int32 → Mem → Prop)  (x1 : Int32) (x2 : Int32) (x3 : Int32) (V : Mem) (Q : Option AV → Mem → Prop) : Prop :=
  (cI C mX7_isSheet [aI x1] V (fun x_2 V_1 => ((x_2 = 0 → Q (some (aI (-1000000001))) V_1) ∧ (¬ x_2 = 0 → (cI C mX7_in [aI x2, aI (-1), aI 1] V_1 (fun x_4 V_3 => ((x_4 = 0 → Q (some (aI (-1000000001))) V_3) ∧ (¬ x_4 = 0 → ((x2 < 0 → wpX7_sheet_29 C I65  x1 x2 x3 V_3 Q) ∧ (¬ x2 < 0 → ((x3 ≤ 24 → wpX7_sheet_29 C I65  x1 x2 x3 V_3 Q) ∧ (¬ x3 ≤ 24 → Q (some (aI (-1000000001))) V_3))))))))))))
set_option maxRecDepth 10000 in
theorem okX7_sheet_0 {d : Nat} {P : Option AV → Mem → Prop} {I65 : Int32 → Int32 → Int32 → Int32 → Mem → Prop}   (x1 : Int32) (x2 : Int32) (x3 : Int32)  (V : Mem) (hk65 : ∀ (x1 : Int32) (x2 : Int32) (x3 : Int32) (x4 : Int32), ∀ (V : Mem), I65 x1 x2 x3 x4 V → Gq (Kp (d + 1) mX7_sheet UM P) UM cX7_sheet 5 RX7 65 [(0, aR 24 0), (1, aI x1), (2, aI x2), (3, aI x3), (4, aI x4)] [] V) (h : wpX7_sheet_0 (Cl UM d) I65  x1 x2 x3 V P) : Gq (Kp (d + 1) mX7_sheet UM P) UM cX7_sheet 5 RX7 0 [(0, aR 24 0), (1, aI x1), (2, aI x2), (3, aI x3)] [] V := by
  unfold wpX7_sheet_0 at h
  refine go_iload_n (q := 1) dX7_sheet_0 rfl rfl ?_
  refine go_cSI (As := [aI x1]) (st := []) ms_X7_isSheet dX7_sheet_1 ml_X7_177 (hr_Kp (Nat.le_refl d)) rfl rfl (Nat.le_of_ble_eq_true rfl) h (fun x_2 V_1 h => ?_)
  refine go_if_eq (tgt := 26) dX7_sheet_4 (by decide) (fun c_8 => ?_) (fun c_8 => ?_)
  · have h := h.1 c_8
    refine go_ldc dX7_sheet_26 ct_X7_84 ?_
    exact go_iret rfl dX7_sheet_28 h
  · have h := h.2 c_8
    refine go_iload_n (q := 2) dX7_sheet_7 rfl rfl ?_
    refine go_iconst (v := (-1)) dX7_sheet_8 (by decide) ?_
    refine go_iconst (v := 1) dX7_sheet_9 (by decide) ?_
    refine go_cSI (As := [aI x2, aI (-1), aI 1]) (st := []) ms_X7_in dX7_sheet_10 ml_X7_76 (hr_Kp (Nat.le_refl d)) rfl rfl (Nat.le_of_ble_eq_true rfl) h (fun x_4 V_3 h => ?_)
    refine go_if_eq (tgt := 26) dX7_sheet_13 (by decide) (fun c_7 => ?_) (fun c_7 => ?_)
    · have h := h.1 c_7
      refine go_ldc dX7_sheet_26 ct_X7_84 ?_
      exact go_iret rfl dX7_sheet_28 h
    · have h := h.2 c_7
      refine go_iload_n (q := 2) dX7_sheet_16 rfl rfl ?_
      refine go_if_lt (tgt := 29) dX7_sheet_17 (by decide) (fun c_6 => ?_) (fun c_6 => ?_)
      · have h := h.1 c_6
        exact okX7_sheet_29   x1 x2 x3  V_3 hk65 h
      · have h := h.2 c_6
        refine go_iload_n (q := 3) dX7_sheet_20 rfl rfl ?_
        refine go_bipush (v := 24) dX7_sheet_21 (by decide) ?_
        refine go_icmp_le (tgt := 29) dX7_sheet_23 (by decide) (fun c_5 => ?_) (fun c_5 => ?_)
        · have h := h.1 c_5
          exact okX7_sheet_29   x1 x2 x3  V_3 hk65 h
        · have h := h.2 c_5
          refine go_ldc dX7_sheet_26 ct_X7_84 ?_
          exact go_iret rfl dX7_sheet_28 h
theorem clX7_sheet {d : Nat} {P : Option AV → Mem → Prop} {I65 : Int32 → Int32 → Int32 → Int32 → Mem → Prop}   (x1 : Int32) (x2 : Int32) (x3 : Int32) (V : Mem) (hk65 : ∀ (x1 : Int32) (x2 : Int32) (x3 : Int32) (x4 : Int32), ∀ (V : Mem), I65 x1 x2 x3 x4 V → Gq (Kp (d + 1) mX7_sheet UM P) UM cX7_sheet 5 RX7 65 [(0, aR 24 0), (1, aI x1), (2, aI x2), (3, aI x3), (4, aI x4)] [] V) (h : wpX7_sheet_0 (Cl UM d) I65  x1 x2 x3 V P) : Cl UM (d + 1) mX7_sheet [aR 24 0, aI x1, aI x2, aI x3] V P :=
  cl_of [(0, aR 24 0), (1, aI x1), (2, aI x2), (3, aI x3)] (by decide) (fun _ => Nat.le_of_ble_eq_true rfl) (fun _ => rfl) (okX7_sheet_0   x1 x2 x3 V hk65 h)
