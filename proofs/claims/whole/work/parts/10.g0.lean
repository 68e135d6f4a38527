theorem dX0_put_0 : decode cX0_put 0 = .ok (.aload_n 0, 1) := by decide +kernel
theorem dX0_put_1 : decode cX0_put 1 = .ok (.getfield 9, 3) := by decide +kernel
theorem dX0_put_4 : decode cX0_put 4 = .ok (.iload_n 1, 1) := by decide +kernel
theorem dX0_put_5 : decode cX0_put 5 = .ok (.aload_n 2, 1) := by decide +kernel
theorem dX0_put_6 : decode cX0_put 6 = .ok (.getfield 29, 3) := by decide +kernel
theorem dX0_put_9 : decode cX0_put 9 = .ok (.iastore, 1) := by decide +kernel
theorem dX0_put_10 : decode cX0_put 10 = .ok (.aload_n 0, 1) := by decide +kernel
theorem dX0_put_11 : decode cX0_put 11 = .ok (.getfield 15, 3) := by decide +kernel
theorem dX0_put_14 : decode cX0_put 14 = .ok (.iload_n 1, 1) := by decide +kernel
theorem dX0_put_15 : decode cX0_put 15 = .ok (.aload_n 2, 1) := by decide +kernel
theorem dX0_put_16 : decode cX0_put 16 = .ok (.getfield 35, 3) := by decide +kernel
theorem dX0_put_19 : decode cX0_put 19 = .ok (.iastore, 1) := by decide +kernel
theorem dX0_put_20 : decode cX0_put 20 = .ok (.aload_n 0, 1) := by decide +kernel
theorem dX0_put_21 : decode cX0_put 21 = .ok (.getfield 18, 3) := by decide +kernel
theorem dX0_put_24 : decode cX0_put 24 = .ok (.iload_n 1, 1) := by decide +kernel
theorem dX0_put_25 : decode cX0_put 25 = .ok (.aload_n 2, 1) := by decide +kernel
theorem dX0_put_26 : decode cX0_put 26 = .ok (.getfield 37, 3) := by decide +kernel
theorem dX0_put_29 : decode cX0_put 29 = .ok (.iastore, 1) := by decide +kernel
theorem dX0_put_30 : decode cX0_put 30 = .ok (.aload_n 2, 1) := by decide +kernel
theorem dX0_put_31 : decode cX0_put 31 = .ok (.getfield 40, 3) := by decide +kernel
theorem dX0_put_34 : decode cX0_put 34 = .ok (.iconst 0, 1) := by decide +kernel
theorem dX0_put_35 : decode cX0_put 35 = .ok (.aload_n 0, 1) := by decide +kernel
theorem dX0_put_36 : decode cX0_put 36 = .ok (.getfield 23, 3) := by decide +kernel
theorem dX0_put_39 : decode cX0_put 39 = .ok (.iload_n 1, 1) := by decide +kernel
theorem dX0_put_40 : decode cX0_put 40 = .ok (.aaload, 1) := by decide +kernel
theorem dX0_put_41 : decode cX0_put 41 = .ok (.iconst 0, 1) := by decide +kernel
theorem dX0_put_42 : decode cX0_put 42 = .ok (.aload_n 2, 1) := by decide +kernel
theorem dX0_put_43 : decode cX0_put 43 = .ok (.getfield 37, 3) := by decide +kernel
theorem dX0_put_46 : decode cX0_put 46 = .ok (.invokestatic 42, 3) := by decide +kernel
theorem dX0_put_49 : decode cX0_put 49 = .ok (.return_, 1) := by decide +kernel
def wpX0_put_0 (C : CT)   (x1 : Int32) (V : Mem) (Q : Option AV → Mem → Prop) : Prop :=
  (∃ j_1 : Nat, x1 = nI j_1 ∧ j_1 < 14 ∧ (∀ V_2 : Mem, V_2 = mu V 7 0 j_1 (V 6 0 3) → (∀ V_3 : Mem, V_3 = mu V_2 8 0 j_1 (V_2 6 0 4) → (∀ V_4 : Mem, V_4 = mu V_3 9 0 j_1 (V_3 6 0 2) → (∃ j_5 j_6 j_7 : Nat, 0 = nI j_5 ∧ 0 = nI j_6 ∧ (V_4 6 0 2) = nI j_7 ∧ j_5 + j_7 ≤ 96 ∧ j_6 + j_7 ≤ 96 ∧ (∀ V_8 : Mem, V_8 = ma V_4 11 j_1 (va_cpy (V_4 18 0) (V_4 11 j_1) j_5 j_6 j_7) → Q none V_8))))))
set_option maxRecDepth 10000 in
theorem okX0_put_0 {d : Nat} {P : Option AV → Mem → Prop}    (x1 : Int32)  (V : Mem)  (h : wpX0_put_0 (Cl UX d)   x1 V P) : Gq (Kp (d + 1) mX0_put UX P) UX cX0_put 3 RX0 0 [(0, aR 1 0), (1, aI x1), (2, aR 6 0)] [] V := by
  unfold wpX0_put_0 at h
  refine go_aload_n (q := 0) dX0_put_0 rfl rfl ?_
  refine go_getr fg_X0_9 dX0_put_1 (mX (n := 1) (by decide) rfl (by omega)) ?_
  refine go_iload_n (q := 1) dX0_put_4 rfl rfl ?_
  refine go_aload_n (q := 2) dX0_put_5 rfl rfl ?_
  refine go_geti fg_X0_29 dX0_put_6 (mX (n := 1) (by decide) rfl (by omega)) ?_
  obtain ⟨j_1, e_j_1, l_j_1, h⟩ := h
  refine go_iast (r := 7) (n := 14) (j := j_1) rfl (by decide) dX0_put_9 (mX (n := 1) (by decide) rfl (by omega)) e_j_1 l_j_1 ?_
  refine nmV (fun V_2 e_V_2 => ?_)
  have h := h V_2 e_V_2
  refine go_aload_n (q := 0) dX0_put_10 rfl rfl ?_
  refine go_getr fg_X0_15 dX0_put_11 (mX (n := 1) (by decide) rfl (by omega)) ?_
  refine go_iload_n (q := 1) dX0_put_14 rfl rfl ?_
  refine go_aload_n (q := 2) dX0_put_15 rfl rfl ?_
  refine go_geti fg_X0_35 dX0_put_16 (mX (n := 1) (by decide) rfl (by omega)) ?_
  refine go_iast (r := 8) (n := 14) (j := j_1) rfl (by decide) dX0_put_19 (mX (n := 1) (by decide) rfl (by omega)) e_j_1 (by omega) ?_
  refine nmV (fun V_3 e_V_3 => ?_)
  have h := h V_3 e_V_3
  refine go_aload_n (q := 0) dX0_put_20 rfl rfl ?_
  refine go_getr fg_X0_18 dX0_put_21 (mX (n := 1) (by decide) rfl (by omega)) ?_
  refine go_iload_n (q := 1) dX0_put_24 rfl rfl ?_
  refine go_aload_n (q := 2) dX0_put_25 rfl rfl ?_
  refine go_geti fg_X0_37 dX0_put_26 (mX (n := 1) (by decide) rfl (by omega)) ?_
  refine go_iast (r := 9) (n := 14) (j := j_1) rfl (by decide) dX0_put_29 (mX (n := 1) (by decide) rfl (by omega)) e_j_1 (by omega) ?_
  refine nmV (fun V_4 e_V_4 => ?_)
  have h := h V_4 e_V_4
  refine go_aload_n (q := 2) dX0_put_30 rfl rfl ?_
  refine go_getr fg_X0_40 dX0_put_31 (mX (n := 1) (by decide) rfl (by omega)) ?_
  refine go_iconst (v := 0) dX0_put_34 (by decide) ?_
  refine go_aload_n (q := 0) dX0_put_35 rfl rfl ?_
  refine go_getr fg_X0_23 dX0_put_36 (mX (n := 1) (by decide) rfl (by omega)) ?_
  refine go_iload_n (q := 1) dX0_put_39 rfl rfl ?_
  refine go_aald (r := 10) (n := 14) (j := j_1) rfl rfl (by decide) dX0_put_40 (mX (n := 1) (by decide) rfl (by omega)) e_j_1 (by omega) ?_
  refine go_iconst (v := 0) dX0_put_41 (by decide) ?_
  refine go_aload_n (q := 2) dX0_put_42 rfl rfl ?_
  refine go_geti fg_X0_37 dX0_put_43 (mX (n := 1) (by decide) rfl (by omega)) ?_
  obtain ⟨j_5, j_6, j_7, ea_j_5, eb_j_5, ec_j_5, la_j_5, lb_j_5, h⟩ := h
  refine go_copy (r0 := 18) (r1 := 11) (n0 := 96) (n1 := 96) ml_X0_42 ac_1 ac_2 ac_3 (hr_Kp (Nat.zero_le d)) rfl rfl (by decide) (by decide) dX0_put_46 (mX (n := 1) (by decide) rfl (by omega)) (mX (n := 14) (by decide) rfl (by omega)) rfl ea_j_5 eb_j_5 ec_j_5 la_j_5 lb_j_5 ?_
  refine nmV (fun V_8 e_V_8 => ?_)
  have h := h V_8 e_V_8
  exact go_vret rfl dX0_put_49 h
theorem clX0_put {d : Nat} {P : Option AV → Mem → Prop}    (x1 : Int32) (V : Mem)  (h : wpX0_put_0 (Cl UX d)   x1 V P) : Cl UX (d + 1) mX0_put [aR 1 0, aI x1, aR 6 0] V P :=
  cl_of [(0, aR 1 0), (1, aI x1), (2, aR 6 0)] (by decide) (fun _ => Nat.le_of_ble_eq_true rfl) (fun _ => rfl) (okX0_put_0   x1 V  h)
theorem dX0_give_0 : decode cX0_give 0 = .ok (.iconst 0, 1) := by decide +kernel
theorem dX0_give_1 : decode cX0_give 1 = .ok (.istore 5, 2) := by decide +kernel
theorem dX0_give_3 : decode cX0_give 3 = .ok (.iconst 0, 1) := by decide +kernel
theorem dX0_give_4 : decode cX0_give 4 = .ok (.istore 6, 2) := by decide +kernel
theorem dX0_give_6 : decode cX0_give 6 = .ok (.iload 6, 2) := by decide +kernel
theorem dX0_give_8 : decode cX0_give 8 = .ok (.aload_n 0, 1) := by decide +kernel
theorem dX0_give_9 : decode cX0_give 9 = .ok (.getfield 18, 3) := by decide +kernel
theorem dX0_give_12 : decode cX0_give 12 = .ok (.iload_n 1, 1) := by decide +kernel
theorem dX0_give_13 : decode cX0_give 13 = .ok (.iaload, 1) := by decide +kernel
theorem dX0_give_14 : decode cX0_give 14 = .ok (.if_icmp .ge 172, 3) := by decide +kernel
theorem dX0_give_17 : decode cX0_give 17 = .ok (.aload_n 0, 1) := by decide +kernel
theorem dX0_give_18 : decode cX0_give 18 = .ok (.getfield 23, 3) := by decide +kernel
theorem dX0_give_21 : decode cX0_give 21 = .ok (.iload_n 1, 1) := by decide +kernel
theorem dX0_give_22 : decode cX0_give 22 = .ok (.aaload, 1) := by decide +kernel
theorem dX0_give_23 : decode cX0_give 23 = .ok (.iload 6, 2) := by decide +kernel
theorem dX0_give_25 : decode cX0_give 25 = .ok (.iaload, 1) := by decide +kernel
theorem dX0_give_26 : decode cX0_give 26 = .ok (.istore 7, 2) := by decide +kernel
theorem dX0_give_28 : decode cX0_give 28 = .ok (.iload 7, 2) := by decide +kernel
theorem dX0_give_30 : decode cX0_give 30 = .ok (.sipush 20000, 3) := by decide +kernel
theorem dX0_give_33 : decode cX0_give 33 = .ok (.if_icmp .ge 62, 3) := by decide +kernel
theorem dX0_give_36 : decode cX0_give 36 = .ok (.iload 5, 2) := by decide +kernel
theorem dX0_give_38 : decode cX0_give 38 = .ok (.bipush 96, 2) := by decide +kernel
theorem dX0_give_40 : decode cX0_give 40 = .ok (.if_icmp .ge 55, 3) := by decide +kernel
theorem dX0_give_43 : decode cX0_give 43 = .ok (.aload_n 0, 1) := by decide +kernel
theorem dX0_give_44 : decode cX0_give 44 = .ok (.getfield 26, 3) := by decide +kernel
theorem dX0_give_47 : decode cX0_give 47 = .ok (.iload 5, 2) := by decide +kernel
theorem dX0_give_49 : decode cX0_give 49 = .ok (.iload 7, 2) := by decide +kernel
theorem dX0_give_51 : decode cX0_give 51 = .ok (.sipush 10000, 3) := by decide +kernel
theorem dX0_give_54 : decode cX0_give 54 = .ok (.if_icmp .ge 8, 3) := by decide +kernel
theorem dX0_give_57 : decode cX0_give 57 = .ok (.iload 7, 2) := by decide +kernel
theorem dX0_give_59 : decode cX0_give 59 = .ok (.goto 29, 3) := by decide +kernel
theorem dX0_give_62 : decode cX0_give 62 = .ok (.iload 7, 2) := by decide +kernel
theorem dX0_give_64 : decode cX0_give 64 = .ok (.sipush 10000, 3) := by decide +kernel
theorem dX0_give_67 : decode cX0_give 67 = .ok (.if_icmp .ne 7, 3) := by decide +kernel
theorem dX0_give_70 : decode cX0_give 70 = .ok (.iload_n 2, 1) := by decide +kernel
theorem dX0_give_71 : decode cX0_give 71 = .ok (.goto 17, 3) := by decide +kernel
theorem dX0_give_74 : decode cX0_give 74 = .ok (.iload 7, 2) := by decide +kernel
theorem dX0_give_76 : decode cX0_give 76 = .ok (.sipush 10001, 3) := by decide +kernel
theorem dX0_give_79 : decode cX0_give 79 = .ok (.if_icmp .ne 7, 3) := by decide +kernel
theorem dX0_give_82 : decode cX0_give 82 = .ok (.iload_n 3, 1) := by decide +kernel
theorem dX0_give_83 : decode cX0_give 83 = .ok (.goto 5, 3) := by decide +kernel
theorem dX0_give_86 : decode cX0_give 86 = .ok (.iload 4, 2) := by decide +kernel
theorem dX0_give_88 : decode cX0_give 88 = .ok (.iastore, 1) := by decide +kernel
theorem dX0_give_89 : decode cX0_give 89 = .ok (.iinc 5 1, 3) := by decide +kernel
theorem dX0_give_92 : decode cX0_give 92 = .ok (.goto 88, 3) := by decide +kernel
theorem dX0_give_95 : decode cX0_give 95 = .ok (.iload 7, 2) := by decide +kernel
theorem dX0_give_97 : decode cX0_give 97 = .ok (.sipush 20033, 3) := by decide +kernel
theorem dX0_give_100 : decode cX0_give 100 = .ok (.if_icmp .ne 37, 3) := by decide +kernel
theorem dX0_give_103 : decode cX0_give 103 = .ok (.iload 5, 2) := by decide +kernel
theorem dX0_give_105 : decode cX0_give 105 = .ok (.ifCond .le 32, 3) := by decide +kernel
theorem dX0_give_108 : decode cX0_give 108 = .ok (.aload_n 0, 1) := by decide +kernel
theorem dX0_give_109 : decode cX0_give 109 = .ok (.getfield 26, 3) := by decide +kernel
theorem dX0_give_112 : decode cX0_give 112 = .ok (.iload 5, 2) := by decide +kernel
theorem dX0_give_114 : decode cX0_give 114 = .ok (.iconst 1, 1) := by decide +kernel
theorem dX0_give_115 : decode cX0_give 115 = .ok (.isub, 1) := by decide +kernel
theorem dX0_give_116 : decode cX0_give 116 = .ok (.aload_n 0, 1) := by decide +kernel
theorem dX0_give_117 : decode cX0_give 117 = .ok (.getfield 26, 3) := by decide +kernel
theorem dX0_give_120 : decode cX0_give 120 = .ok (.iload 5, 2) := by decide +kernel
theorem dX0_give_122 : decode cX0_give 122 = .ok (.iconst 1, 1) := by decide +kernel
theorem dX0_give_123 : decode cX0_give 123 = .ok (.isub, 1) := by decide +kernel
theorem dX0_give_124 : decode cX0_give 124 = .ok (.iaload, 1) := by decide +kernel
theorem dX0_give_125 : decode cX0_give 125 = .ok (.ifCond .ne 7, 3) := by decide +kernel
theorem dX0_give_128 : decode cX0_give 128 = .ok (.iconst 1, 1) := by decide +kernel
theorem dX0_give_129 : decode cX0_give 129 = .ok (.goto 4, 3) := by decide +kernel
theorem dX0_give_132 : decode cX0_give 132 = .ok (.iconst 0, 1) := by decide +kernel
theorem dX0_give_133 : decode cX0_give 133 = .ok (.iastore, 1) := by decide +kernel
theorem dX0_give_134 : decode cX0_give 134 = .ok (.goto 46, 3) := by decide +kernel
theorem dX0_give_137 : decode cX0_give 137 = .ok (.iload 5, 2) := by decide +kernel
theorem dX0_give_139 : decode cX0_give 139 = .ok (.iconst 1, 1) := by decide +kernel
theorem dX0_give_140 : decode cX0_give 140 = .ok (.if_icmp .le 40, 3) := by decide +kernel
theorem dX0_give_143 : decode cX0_give 143 = .ok (.iinc 5 (-1), 3) := by decide +kernel
theorem dX0_give_146 : decode cX0_give 146 = .ok (.aload_n 0, 1) := by decide +kernel
theorem dX0_give_147 : decode cX0_give 147 = .ok (.getfield 26, 3) := by decide +kernel
theorem dX0_give_150 : decode cX0_give 150 = .ok (.iload 5, 2) := by decide +kernel
theorem dX0_give_152 : decode cX0_give 152 = .ok (.iconst 1, 1) := by decide +kernel
theorem dX0_give_153 : decode cX0_give 153 = .ok (.isub, 1) := by decide +kernel
theorem dX0_give_154 : decode cX0_give 154 = .ok (.iload 7, 2) := by decide +kernel
theorem dX0_give_156 : decode cX0_give 156 = .ok (.sipush 20000, 3) := by decide +kernel
theorem dX0_give_159 : decode cX0_give 159 = .ok (.isub, 1) := by decide +kernel
theorem dX0_give_160 : decode cX0_give 160 = .ok (.aload_n 0, 1) := by decide +kernel
theorem dX0_give_161 : decode cX0_give 161 = .ok (.getfield 26, 3) := by decide +kernel
theorem dX0_give_164 : decode cX0_give 164 = .ok (.iload 5, 2) := by decide +kernel
theorem dX0_give_166 : decode cX0_give 166 = .ok (.iconst 1, 1) := by decide +kernel
theorem dX0_give_167 : decode cX0_give 167 = .ok (.isub, 1) := by decide +kernel
theorem dX0_give_168 : decode cX0_give 168 = .ok (.iaload, 1) := by decide +kernel
theorem dX0_give_169 : decode cX0_give 169 = .ok (.aload_n 0, 1) := by decide +kernel
theorem dX0_give_170 : decode cX0_give 170 = .ok (.getfield 26, 3) := by decide +kernel
theorem dX0_give_173 : decode cX0_give 173 = .ok (.iload 5, 2) := by decide +kernel
theorem dX0_give_175 : decode cX0_give 175 = .ok (.iaload, 1) := by decide +kernel
theorem dX0_give_176 : decode cX0_give 176 = .ok (.invokestatic 48, 3) := by decide +kernel
theorem dX0_give_179 : decode cX0_give 179 = .ok (.iastore, 1) := by decide +kernel
theorem dX0_give_180 : decode cX0_give 180 = .ok (.iinc 6 1, 3) := by decide +kernel
theorem dX0_give_183 : decode cX0_give 183 = .ok (.goto (-177), 3) := by decide +kernel
theorem dX0_give_186 : decode cX0_give 186 = .ok (.aload_n 0, 1) := by decide +kernel
theorem dX0_give_187 : decode cX0_give 187 = .ok (.getfield 26, 3) := by decide +kernel
theorem dX0_give_190 : decode cX0_give 190 = .ok (.iconst 0, 1) := by decide +kernel
theorem dX0_give_191 : decode cX0_give 191 = .ok (.iaload, 1) := by decide +kernel
theorem dX0_give_192 : decode cX0_give 192 = .ok (.ireturn, 1) := by decide +kernel
def wpX0_give_137 (C : CT) (I6 : Int32 → Int32 → Int32 → Int32 → Int32 → Int32 → Mem → Prop)  (x1 : Int32) (x2 : Int32) (x3 : Int32) (x4 : Int32) (x5 : Int32) (x6 : Int32) (x7 : Int32) (V : Mem) (Q : Option AV → Mem → Prop) : Prop :=
  ((x5 ≤ 1 → I6 x1 x2 x3 x4 x5 (x6 + 1) V) ∧ (¬ x5 ≤ 1 → (∃ j_1 : Nat, ((x5 + (-1)) - 1) = nI j_1 ∧ j_1 < 96 ∧ (∃ j_2 : Nat, x5 + (-1) = nI j_2 ∧ j_2 < 96 ∧ (cI C mX0_joined [aI (x7 - 20000), aI (V 12 0 j_1), aI (V 12 0 j_2)] V (fun x_4 V_3 => (∀ V_5 : Mem, V_5 = mu V_3 12 0 j_1 x_4 → I6 x1 x2 x3 x4 (x5 + (-1)) (x6 + 1) V_5)))))))
set_option maxRecDepth 10000 in
theorem okX0_give_137 {d : Nat} {P : Option AV → Mem → Prop} {I6 : Int32 → Int32 → Int32 → Int32 → Int32 → Int32 → Mem → Prop}   (x1 : Int32) (x2 : Int32) (x3 : Int32) (x4 : Int32) (x5 : Int32) (x6 : Int32) (x7 : Int32)  (V : Mem) (hk6 : ∀ (x1 : Int32) (x2 : Int32) (x3 : Int32) (x4 : Int32) (x5 : Int32) (x6 : Int32), ∀ (V : Mem), I6 x1 x2 x3 x4 x5 x6 V → Gq (Kp (d + 1) mX0_give UX P) UX cX0_give 8 RX0 6 [(0, aR 1 0), (1, aI x1), (2, aI x2), (3, aI x3), (4, aI x4), (5, aI x5), (6, aI x6)] [] V) (h : wpX0_give_137 (Cl UX d) I6  x1 x2 x3 x4 x5 x6 x7 V P) : Gq (Kp (d + 1) mX0_give UX P) UX cX0_give 8 RX0 137 [(0, aR 1 0), (1, aI x1), (2, aI x2), (3, aI x3), (4, aI x4), (5, aI x5), (6, aI x6), (7, aI x7)] [] V := by
  unfold wpX0_give_137 at h
  refine go_iload (q := 5) dX0_give_137 rfl ?_
  refine go_iconst (v := 1) dX0_give_139 (by decide) ?_
  refine go_icmp_le (tgt := 180) dX0_give_140 (by decide) (fun c_6 => ?_) (fun c_6 => ?_)
  · have h := h.1 c_6
    refine go_iinc (q := 6) (y := 1) (al1 := [(6, aI (x6 + 1)), (0, aR 1 0), (1, aI x1), (2, aI x2), (3, aI x3), (4, aI x4), (5, aI x5), (7, aI x7)]) dX0_give_180 rfl (by decide) (by decide) rfl ?_
    refine go_goto (tgt := 6) dX0_give_183 (by decide) ?_
    refine go_sub (al1 := [(0, aR 1 0), (1, aI x1), (2, aI x2), (3, aI x3), (4, aI x4), (5, aI x5), (6, aI (x6 + 1))]) [1, 2, 3, 4, 5, 6, 0] rfl ?_
    exact hk6 x1 x2 x3 x4 x5 (x6 + 1)  V h
  · have h := h.2 c_6
    refine go_iinc (q := 5) (y := (-1)) (al1 := [(5, aI (x5 + (-1))), (0, aR 1 0), (1, aI x1), (2, aI x2), (3, aI x3), (4, aI x4), (6, aI x6), (7, aI x7)]) dX0_give_143 rfl (by decide) (by decide) rfl ?_
    refine go_aload_n (q := 1) dX0_give_146 rfl rfl ?_
    refine go_getr fg_X0_26 dX0_give_147 (mX (n := 1) (by decide) rfl (by omega)) ?_
    refine go_iload (q := 0) dX0_give_150 rfl ?_
    refine go_iconst (v := 1) dX0_give_152 (by decide) ?_
    refine go_isub dX0_give_153 ?_
    refine go_iload (q := 7) dX0_give_154 rfl ?_
    refine go_sipush (v := 20000) dX0_give_156 (by decide) ?_
    refine go_isub dX0_give_159 ?_
    refine go_aload_n (q := 1) dX0_give_160 rfl rfl ?_
    refine go_getr fg_X0_26 dX0_give_161 (mX (n := 1) (by decide) rfl (by omega)) ?_
    refine go_iload (q := 0) dX0_give_164 rfl ?_
    refine go_iconst (v := 1) dX0_give_166 (by decide) ?_
    refine go_isub dX0_give_167 ?_
    obtain ⟨j_1, e_j_1, l_j_1, h⟩ := h
    refine go_iald (r := 12) (n := 96) (j := j_1) rfl (by decide) dX0_give_168 (mX (n := 1) (by decide) rfl (by omega)) e_j_1 l_j_1 ?_
    refine go_aload_n (q := 1) dX0_give_169 rfl rfl ?_
    refine go_getr fg_X0_26 dX0_give_170 (mX (n := 1) (by decide) rfl (by omega)) ?_
    refine go_iload (q := 0) dX0_give_173 rfl ?_
    obtain ⟨j_2, e_j_2, l_j_2, h⟩ := h
    refine go_iald (r := 12) (n := 96) (j := j_2) rfl (by decide) dX0_give_175 (mX (n := 1) (by decide) rfl (by omega)) e_j_2 l_j_2 ?_
    refine go_cSI (As := [aI (x7 - 20000), aI (V 12 0 j_1), aI (V 12 0 j_2)]) (st := [aI ((x5 + (-1)) - 1), aR 12 0]) ms_X0_joined dX0_give_176 ml_X0_48 (hr_Kp (Nat.le_refl d)) rfl rfl (Nat.le_of_ble_eq_true rfl) h (fun x_4 V_3 h => ?_)
    refine go_iast (r := 12) (n := 96) (j := j_1) rfl (by decide) dX0_give_179 (mX (n := 1) (by decide) rfl (by omega)) e_j_1 (by omega) ?_
    refine nmV (fun V_5 e_V_5 => ?_)
    have h := h V_5 e_V_5
    refine go_iinc (q := 6) (y := 1) (al1 := [(6, aI (x6 + 1)), (5, aI (x5 + (-1))), (0, aR 1 0), (1, aI x1), (2, aI x2), (3, aI x3), (4, aI x4), (7, aI x7)]) dX0_give_180 rfl (by decide) (by decide) rfl ?_
    refine go_goto (tgt := 6) dX0_give_183 (by decide) ?_
    refine go_sub (al1 := [(0, aR 1 0), (1, aI x1), (2, aI x2), (3, aI x3), (4, aI x4), (5, aI (x5 + (-1))), (6, aI (x6 + 1))]) [2, 3, 4, 5, 6, 1, 0] rfl ?_
    exact hk6 x1 x2 x3 x4 (x5 + (-1)) (x6 + 1)  V_5 h
def wpX0_give_95 (C : CT) (I6 : Int32 → Int32 → Int32 → Int32 → Int32 → Int32 → Mem → Prop)  (x1 : Int32) (x2 : Int32) (x3 : Int32) (x4 : Int32) (x5 : Int32) (x6 : Int32) (x7 : Int32) (V : Mem) (Q : Option AV → Mem → Prop) : Prop :=
  ((¬ x7 = 20033 → wpX0_give_137 C I6  x1 x2 x3 x4 x5 x6 x7 V Q) ∧ (x7 = 20033 → ((x5 ≤ 0 → wpX0_give_137 C I6  x1 x2 x3 x4 x5 x6 x7 V Q) ∧ (¬ x5 ≤ 0 → (∃ j_1 : Nat, (x5 - 1) = nI j_1 ∧ j_1 < 96 ∧ ((¬ (V 12 0 j_1) = 0 → (∀ V_2 : Mem, V_2 = mu V 12 0 j_1 0 → I6 x1 x2 x3 x4 x5 (x6 + 1) V_2)) ∧ ((V 12 0 j_1) = 0 → (∀ V_3 : Mem, V_3 = mu V 12 0 j_1 1 → I6 x1 x2 x3 x4 x5 (x6 + 1) V_3))))))))
set_option maxRecDepth 10000 in
theorem okX0_give_95 {d : Nat} {P : Option AV → Mem → Prop} {I6 : Int32 → Int32 → Int32 → Int32 → Int32 → Int32 → Mem → Prop}   (x1 : Int32) (x2 : Int32) (x3 : Int32) (x4 : Int32) (x5 : Int32) (x6 : Int32) (x7 : Int32)  (V : Mem) (hk6 : ∀ (x1 : Int32) (x2 : Int32) (x3 : Int32) (x4 : Int32) (x5 : Int32) (x6 : Int32), ∀ (V : Mem), I6 x1 x2 x3 x4 x5 x6 V → Gq (Kp (d + 1) mX0_give UX P) UX cX0_give 8 RX0 6 [(0, aR 1 0), (1, aI x1), (2, aI x2), (3, aI x3), (4, aI x4), (5, aI x5), (6, aI x6)] [] V) (h : wpX0_give_95 (Cl UX d) I6  x1 x2 x3 x4 x5 x6 x7 V P) : Gq (Kp (d + 1) mX0_give UX P) UX cX0_give 8 RX0 95 [(0, aR 1 0), (1, aI x1), (2, aI x2), (3, aI x3), (4, aI x4), (5, aI x5), (6, aI x6), (7, aI x7)] [] V := by
  unfold wpX0_give_95 at h
  refine go_iload (q := 7) dX0_give_95 rfl ?_
  refine go_sipush (v := 20033) dX0_give_97 (by decide) ?_
  refine go_icmp_ne (tgt := 137) dX0_give_100 (by decide) (fun c_6 => ?_) (fun c_6 => ?_)
  · have h := h.1 c_6
    exact okX0_give_137   x1 x2 x3 x4 x5 x6 x7  V hk6 h
  · have h := h.2 c_6
    refine go_iload (q := 5) dX0_give_103 rfl ?_
    refine go_if_le (tgt := 137) dX0_give_105 (by decide) (fun c_5 => ?_) (fun c_5 => ?_)
    · have h := h.1 c_5
      exact okX0_give_137   x1 x2 x3 x4 x5 x6 x7  V hk6 h
    · have h := h.2 c_5
      refine go_aload_n (q := 0) dX0_give_108 rfl rfl ?_
      refine go_getr fg_X0_26 dX0_give_109 (mX (n := 1) (by decide) rfl (by omega)) ?_
      refine go_iload (q := 5) dX0_give_112 rfl ?_
      refine go_iconst (v := 1) dX0_give_114 (by decide) ?_
      refine go_isub dX0_give_115 ?_
      refine go_aload_n (q := 0) dX0_give_116 rfl rfl ?_
      refine go_getr fg_X0_26 dX0_give_117 (mX (n := 1) (by decide) rfl (by omega)) ?_
      refine go_iload (q := 5) dX0_give_120 rfl ?_
      refine go_iconst (v := 1) dX0_give_122 (by decide) ?_
      refine go_isub dX0_give_123 ?_
      obtain ⟨j_1, e_j_1, l_j_1, h⟩ := h
      refine go_iald (r := 12) (n := 96) (j := j_1) rfl (by decide) dX0_give_124 (mX (n := 1) (by decide) rfl (by omega)) e_j_1 l_j_1 ?_
      refine go_if_ne (tgt := 132) dX0_give_125 (by decide) (fun c_4 => ?_) (fun c_4 => ?_)
      · have h := h.1 c_4
        refine go_iconst (v := 0) dX0_give_132 (by decide) ?_
        refine go_iast (r := 12) (n := 96) (j := j_1) rfl (by decide) dX0_give_133 (mX (n := 1) (by decide) rfl (by omega)) e_j_1 (by omega) ?_
        refine nmV (fun V_2 e_V_2 => ?_)
        have h := h V_2 e_V_2
        refine go_goto (tgt := 180) dX0_give_134 (by decide) ?_
        refine go_iinc (q := 6) (y := 1) (al1 := [(6, aI (x6 + 1)), (0, aR 1 0), (1, aI x1), (2, aI x2), (3, aI x3), (4, aI x4), (5, aI x5), (7, aI x7)]) dX0_give_180 rfl (by decide) (by decide) rfl ?_
        refine go_goto (tgt := 6) dX0_give_183 (by decide) ?_
        refine go_sub (al1 := [(0, aR 1 0), (1, aI x1), (2, aI x2), (3, aI x3), (4, aI x4), (5, aI x5), (6, aI (x6 + 1))]) [1, 2, 3, 4, 5, 6, 0] rfl ?_
        exact hk6 x1 x2 x3 x4 x5 (x6 + 1)  V_2 h
      · have h := h.2 c_4
        refine go_iconst (v := 1) dX0_give_128 (by decide) ?_
        refine go_goto (tgt := 133) dX0_give_129 (by decide) ?_
        refine go_iast (r := 12) (n := 96) (j := j_1) rfl (by decide) dX0_give_133 (mX (n := 1) (by decide) rfl (by omega)) e_j_1 (by omega) ?_
        refine nmV (fun V_3 e_V_3 => ?_)
        have h := h V_3 e_V_3
        refine go_goto (tgt := 180) dX0_give_134 (by decide) ?_
        refine go_iinc (q := 6) (y := 1) (al1 := [(6, aI (x6 + 1)), (0, aR 1 0), (1, aI x1), (2, aI x2), (3, aI x3), (4, aI x4), (5, aI x5), (7, aI x7)]) dX0_give_180 rfl (by decide) (by decide) rfl ?_
        refine go_goto (tgt := 6) dX0_give_183 (by decide) ?_
        refine go_sub (al1 := [(0, aR 1 0), (1, aI x1), (2, aI x2), (3, aI x3), (4, aI x4), (5, aI x5), (6, aI (x6 + 1))]) [1, 2, 3, 4, 5, 6, 0] rfl ?_
        exact hk6 x1 x2 x3 x4 x5 (x6 + 1)  V_3 h
def wpX0_give_6 (C : CT) (I6 : Int32 → Int32 → Int32 → Int32 → Int32 → Int32 → Mem → Prop)  (x1 : Int32) (x2 : Int32) (x3 : Int32) (x4 : Int32) (x5 : Int32) (x6 : Int32) (V : Mem) (Q : Option AV → Mem → Prop) : Prop :=
  (∃ j_1 : Nat, x1 = nI j_1 ∧ j_1 < 14 ∧ (((V 9 0 j_1) ≤ x6 → Q (some (aI (V 12 0 0))) V) ∧ (¬ (V 9 0 j_1) ≤ x6 → (∃ j_2 : Nat, x6 = nI j_2 ∧ j_2 < 96 ∧ (∀ z_3 : Int32, z_3 = (V 11 j_1 j_2) → ((20000 ≤ z_3 → wpX0_give_95 C I6  x1 x2 x3 x4 x5 x6 z_3 V Q) ∧ (¬ 20000 ≤ z_3 → ((96 ≤ x5 → wpX0_give_95 C I6  x1 x2 x3 x4 x5 x6 z_3 V Q) ∧ (¬ 96 ≤ x5 → ((10000 ≤ z_3 → ((¬ z_3 = 10000 → ((¬ z_3 = 10001 → (∃ j_4 : Nat, x5 = nI j_4 ∧ j_4 < 96 ∧ (∀ V_5 : Mem, V_5 = mu V 12 0 j_4 x4 → I6 x1 x2 x3 x4 (x5 + 1) (x6 + 1) V_5))) ∧ (z_3 = 10001 → (∃ j_6 : Nat, x5 = nI j_6 ∧ j_6 < 96 ∧ (∀ V_7 : Mem, V_7 = mu V 12 0 j_6 x3 → I6 x1 x2 x3 x4 (x5 + 1) (x6 + 1) V_7))))) ∧ (z_3 = 10000 → (∃ j_9 : Nat, x5 = nI j_9 ∧ j_9 < 96 ∧ (∀ V_10 : Mem, V_10 = mu V 12 0 j_9 x2 → I6 x1 x2 x3 x4 (x5 + 1) (x6 + 1) V_10))))) ∧ (¬ 10000 ≤ z_3 → (∃ j_12 : Nat, x5 = nI j_12 ∧ j_12 < 96 ∧ (∀ V_13 : Mem, V_13 = mu V 12 0 j_12 z_3 → I6 x1 x2 x3 x4 (x5 + 1) (x6 + 1) V_13)))))))))))))
set_option maxRecDepth 10000 in
theorem okX0_give_6 {d : Nat} {P : Option AV → Mem → Prop} {I6 : Int32 → Int32 → Int32 → Int32 → Int32 → Int32 → Mem → Prop}   (x1 : Int32) (x2 : Int32) (x3 : Int32) (x4 : Int32) (x5 : Int32) (x6 : Int32)  (V : Mem) (hk6 : ∀ (x1 : Int32) (x2 : Int32) (x3 : Int32) (x4 : Int32) (x5 : Int32) (x6 : Int32), ∀ (V : Mem), I6 x1 x2 x3 x4 x5 x6 V → Gq (Kp (d + 1) mX0_give UX P) UX cX0_give 8 RX0 6 [(0, aR 1 0), (1, aI x1), (2, aI x2), (3, aI x3), (4, aI x4), (5, aI x5), (6, aI x6)] [] V) (h : wpX0_give_6 (Cl UX d) I6  x1 x2 x3 x4 x5 x6 V P) : Gq (Kp (d + 1) mX0_give UX P) UX cX0_give 8 RX0 6 [(0, aR 1 0), (1, aI x1), (2, aI x2), (3, aI x3), (4, aI x4), (5, aI x5), (6, aI x6)] [] V := by
  unfold wpX0_give_6 at h
  refine go_iload (q := 6) dX0_give_6 rfl ?_
  refine go_aload_n (q := 0) dX0_give_8 rfl rfl ?_
  refine go_getr fg_X0_18 dX0_give_9 (mX (n := 1) (by decide) rfl (by omega)) ?_
  refine go_iload_n (q := 1) dX0_give_12 rfl rfl ?_
  obtain ⟨j_1, e_j_1, l_j_1, h⟩ := h
  refine go_iald (r := 9) (n := 14) (j := j_1) rfl (by decide) dX0_give_13 (mX (n := 1) (by decide) rfl (by omega)) e_j_1 l_j_1 ?_
  refine go_icmp_ge (tgt := 186) dX0_give_14 (by decide) (fun c_17 => ?_) (fun c_17 => ?_)
  · have h := h.1 c_17
    refine go_aload_n (q := 0) dX0_give_186 rfl rfl ?_
    refine go_getr fg_X0_26 dX0_give_187 (mX (n := 1) (by decide) rfl (by omega)) ?_
    refine go_iconst (v := 0) dX0_give_190 (by decide) ?_
    refine go_iald (r := 12) (n := 96) (j := 0) rfl (by decide) dX0_give_191 (mX (n := 1) (by decide) rfl (by omega)) (by decide) (by decide) ?_
    exact go_iret rfl dX0_give_192 h
  · have h := h.2 c_17
    refine go_aload_n (q := 0) dX0_give_17 rfl rfl ?_
    refine go_getr fg_X0_23 dX0_give_18 (mX (n := 1) (by decide) rfl (by omega)) ?_
    refine go_iload_n (q := 1) dX0_give_21 rfl rfl ?_
    refine go_aald (r := 10) (n := 14) (j := j_1) rfl rfl (by decide) dX0_give_22 (mX (n := 1) (by decide) rfl (by omega)) e_j_1 (by omega) ?_
    refine go_iload (q := 6) dX0_give_23 rfl ?_
    obtain ⟨j_2, e_j_2, l_j_2, h⟩ := h
    refine go_iald (r := 11) (n := 96) (j := j_2) rfl (by decide) dX0_give_25 (mX (n := 14) (by decide) rfl (by omega)) e_j_2 l_j_2 ?_
    refine nmI (fun z_3 e_z_3 => ?_)
    have h := h z_3 e_z_3
    refine go_istore (al1 := [(7, aI z_3), (0, aR 1 0), (1, aI x1), (2, aI x2), (3, aI x3), (4, aI x4), (5, aI x5), (6, aI x6)]) dX0_give_26 (by decide) rfl ?_
    refine go_iload (q := 0) dX0_give_28 rfl ?_
    refine go_sipush (v := 20000) dX0_give_30 (by decide) ?_
    refine go_icmp_ge (tgt := 95) dX0_give_33 (by decide) (fun c_16 => ?_) (fun c_16 => ?_)
    · have h := h.1 c_16
      refine go_sub (al1 := [(0, aR 1 0), (1, aI x1), (2, aI x2), (3, aI x3), (4, aI x4), (5, aI x5), (6, aI x6), (7, aI z_3)]) [1, 2, 3, 4, 5, 6, 7, 0] rfl ?_
      exact okX0_give_95   x1 x2 x3 x4 x5 x6 z_3  V hk6 h
    · have h := h.2 c_16
      refine go_iload (q := 6) dX0_give_36 rfl ?_
      refine go_bipush (v := 96) dX0_give_38 (by decide) ?_
      refine go_icmp_ge (tgt := 95) dX0_give_40 (by decide) (fun c_15 => ?_) (fun c_15 => ?_)
      · have h := h.1 c_15
        refine go_sub (al1 := [(0, aR 1 0), (1, aI x1), (2, aI x2), (3, aI x3), (4, aI x4), (5, aI x5), (6, aI x6), (7, aI z_3)]) [1, 2, 3, 4, 5, 6, 7, 0] rfl ?_
        exact okX0_give_95   x1 x2 x3 x4 x5 x6 z_3  V hk6 h
      · have h := h.2 c_15
        refine go_aload_n (q := 1) dX0_give_43 rfl rfl ?_
        refine go_getr fg_X0_26 dX0_give_44 (mX (n := 1) (by decide) rfl (by omega)) ?_
        refine go_iload (q := 6) dX0_give_47 rfl ?_
        refine go_iload (q := 0) dX0_give_49 rfl ?_
        refine go_sipush (v := 10000) dX0_give_51 (by decide) ?_
        refine go_icmp_ge (tgt := 62) dX0_give_54 (by decide) (fun c_14 => ?_) (fun c_14 => ?_)
        · have h := h.1 c_14
          refine go_iload (q := 0) dX0_give_62 rfl ?_
          refine go_sipush (v := 10000) dX0_give_64 (by decide) ?_
          refine go_icmp_ne (tgt := 74) dX0_give_67 (by decide) (fun c_11 => ?_) (fun c_11 => ?_)
          · have h := h.1 c_11
            refine go_iload (q := 0) dX0_give_74 rfl ?_
            refine go_sipush (v := 10001) dX0_give_76 (by decide) ?_
            refine go_icmp_ne (tgt := 86) dX0_give_79 (by decide) (fun c_8 => ?_) (fun c_8 => ?_)
            · have h := h.1 c_8
              refine go_iload (q := 5) dX0_give_86 rfl ?_
              obtain ⟨j_4, e_j_4, l_j_4, h⟩ := h
              refine go_iast (r := 12) (n := 96) (j := j_4) rfl (by decide) dX0_give_88 (mX (n := 1) (by decide) rfl (by omega)) e_j_4 l_j_4 ?_
              refine nmV (fun V_5 e_V_5 => ?_)
              have h := h V_5 e_V_5
              refine go_iinc (q := 6) (y := 1) (al1 := [(5, aI (x5 + 1)), (7, aI z_3), (0, aR 1 0), (1, aI x1), (2, aI x2), (3, aI x3), (4, aI x4), (6, aI x6)]) dX0_give_89 rfl (by decide) (by decide) rfl ?_
              refine go_goto (tgt := 180) dX0_give_92 (by decide) ?_
              refine go_iinc (q := 7) (y := 1) (al1 := [(6, aI (x6 + 1)), (5, aI (x5 + 1)), (7, aI z_3), (0, aR 1 0), (1, aI x1), (2, aI x2), (3, aI x3), (4, aI x4)]) dX0_give_180 rfl (by decide) (by decide) rfl ?_
              refine go_goto (tgt := 6) dX0_give_183 (by decide) ?_
              refine go_sub (al1 := [(0, aR 1 0), (1, aI x1), (2, aI x2), (3, aI x3), (4, aI x4), (5, aI (x5 + 1)), (6, aI (x6 + 1))]) [3, 4, 5, 6, 7, 1, 0] rfl ?_
              exact hk6 x1 x2 x3 x4 (x5 + 1) (x6 + 1)  V_5 h
            · have h := h.2 c_8
              refine go_iload_n (q := 4) dX0_give_82 rfl rfl ?_
              refine go_goto (tgt := 88) dX0_give_83 (by decide) ?_
              obtain ⟨j_6, e_j_6, l_j_6, h⟩ := h
              refine go_iast (r := 12) (n := 96) (j := j_6) rfl (by decide) dX0_give_88 (mX (n := 1) (by decide) rfl (by omega)) e_j_6 l_j_6 ?_
              refine nmV (fun V_7 e_V_7 => ?_)
              have h := h V_7 e_V_7
              refine go_iinc (q := 6) (y := 1) (al1 := [(5, aI (x5 + 1)), (7, aI z_3), (0, aR 1 0), (1, aI x1), (2, aI x2), (3, aI x3), (4, aI x4), (6, aI x6)]) dX0_give_89 rfl (by decide) (by decide) rfl ?_
              refine go_goto (tgt := 180) dX0_give_92 (by decide) ?_
              refine go_iinc (q := 7) (y := 1) (al1 := [(6, aI (x6 + 1)), (5, aI (x5 + 1)), (7, aI z_3), (0, aR 1 0), (1, aI x1), (2, aI x2), (3, aI x3), (4, aI x4)]) dX0_give_180 rfl (by decide) (by decide) rfl ?_
              refine go_goto (tgt := 6) dX0_give_183 (by decide) ?_
              refine go_sub (al1 := [(0, aR 1 0), (1, aI x1), (2, aI x2), (3, aI x3), (4, aI x4), (5, aI (x5 + 1)), (6, aI (x6 + 1))]) [3, 4, 5, 6, 7, 1, 0] rfl ?_
              exact hk6 x1 x2 x3 x4 (x5 + 1) (x6 + 1)  V_7 h
          · have h := h.2 c_11
            refine go_iload_n (q := 3) dX0_give_70 rfl rfl ?_
            refine go_goto (tgt := 88) dX0_give_71 (by decide) ?_
            obtain ⟨j_9, e_j_9, l_j_9, h⟩ := h
            refine go_iast (r := 12) (n := 96) (j := j_9) rfl (by decide) dX0_give_88 (mX (n := 1) (by decide) rfl (by omega)) e_j_9 l_j_9 ?_
            refine nmV (fun V_10 e_V_10 => ?_)
            have h := h V_10 e_V_10
            refine go_iinc (q := 6) (y := 1) (al1 := [(5, aI (x5 + 1)), (7, aI z_3), (0, aR 1 0), (1, aI x1), (2, aI x2), (3, aI x3), (4, aI x4), (6, aI x6)]) dX0_give_89 rfl (by decide) (by decide) rfl ?_
            refine go_goto (tgt := 180) dX0_give_92 (by decide) ?_
            refine go_iinc (q := 7) (y := 1) (al1 := [(6, aI (x6 + 1)), (5, aI (x5 + 1)), (7, aI z_3), (0, aR 1 0), (1, aI x1), (2, aI x2), (3, aI x3), (4, aI x4)]) dX0_give_180 rfl (by decide) (by decide) rfl ?_
            refine go_goto (tgt := 6) dX0_give_183 (by decide) ?_
            refine go_sub (al1 := [(0, aR 1 0), (1, aI x1), (2, aI x2), (3, aI x3), (4, aI x4), (5, aI (x5 + 1)), (6, aI (x6 + 1))]) [3, 4, 5, 6, 7, 1, 0] rfl ?_
            exact hk6 x1 x2 x3 x4 (x5 + 1) (x6 + 1)  V_10 h
        · have h := h.2 c_14
          refine go_iload (q := 0) dX0_give_57 rfl ?_
          refine go_goto (tgt := 88) dX0_give_59 (by decide) ?_
          obtain ⟨j_12, e_j_12, l_j_12, h⟩ := h
          refine go_iast (r := 12) (n := 96) (j := j_12) rfl (by decide) dX0_give_88 (mX (n := 1) (by decide) rfl (by omega)) e_j_12 l_j_12 ?_
          refine nmV (fun V_13 e_V_13 => ?_)
          have h := h V_13 e_V_13
          refine go_iinc (q := 6) (y := 1) (al1 := [(5, aI (x5 + 1)), (7, aI z_3), (0, aR 1 0), (1, aI x1), (2, aI x2), (3, aI x3), (4, aI x4), (6, aI x6)]) dX0_give_89 rfl (by decide) (by decide) rfl ?_
          refine go_goto (tgt := 180) dX0_give_92 (by decide) ?_
          refine go_iinc (q := 7) (y := 1) (al1 := [(6, aI (x6 + 1)), (5, aI (x5 + 1)), (7, aI z_3), (0, aR 1 0), (1, aI x1), (2, aI x2), (3, aI x3), (4, aI x4)]) dX0_give_180 rfl (by decide) (by decide) rfl ?_
          refine go_goto (tgt := 6) dX0_give_183 (by decide) ?_
          refine go_sub (al1 := [(0, aR 1 0), (1, aI x1), (2, aI x2), (3, aI x3), (4, aI x4), (5, aI (x5 + 1)), (6, aI (x6 + 1))]) [3, 4, 5, 6, 7, 1, 0] rfl ?_
          exact hk6 x1 x2 x3 x4 (x5 + 1) (x6 + 1)  V_13 h
def wpX0_give_0 (C : CT) (I6 : Int32 → Int32 → Int32 → Int32 → Int32 → Int32 → Mem → Prop)  (x1 : Int32) (x2 : Int32) (x3 : Int32) (x4 : Int32) (V : Mem) (Q : Option AV → Mem → Prop) : Prop :=
  I6 x1 x2 x3 x4 0 0 V
set_option maxRecDepth 10000 in
theorem okX0_give_0 {d : Nat} {P : Option AV → Mem → Prop} {I6 : Int32 → Int32 → Int32 → Int32 → Int32 → Int32 → Mem → Prop}   (x1 : Int32) (x2 : Int32) (x3 : Int32) (x4 : Int32)  (V : Mem) (hk6 : ∀ (x1 : Int32) (x2 : Int32) (x3 : Int32) (x4 : Int32) (x5 : Int32) (x6 : Int32), ∀ (V : Mem), I6 x1 x2 x3 x4 x5 x6 V → Gq (Kp (d + 1) mX0_give UX P) UX cX0_give 8 RX0 6 [(0, aR 1 0), (1, aI x1), (2, aI x2), (3, aI x3), (4, aI x4), (5, aI x5), (6, aI x6)] [] V) (h : wpX0_give_0 (Cl UX d) I6  x1 x2 x3 x4 V P) : Gq (Kp (d + 1) mX0_give UX P) UX cX0_give 8 RX0 0 [(0, aR 1 0), (1, aI x1), (2, aI x2), (3, aI x3), (4, aI x4)] [] V := by
  unfold wpX0_give_0 at h
  refine go_iconst (v := 0) dX0_give_0 (by decide) ?_
  refine go_istore (al1 := [(5, aI 0), (0, aR 1 0), (1, aI x1), (2, aI x2), (3, aI x3), (4, aI x4)]) dX0_give_1 (by decide) rfl ?_
  refine go_iconst (v := 0) dX0_give_3 (by decide) ?_
  refine go_istore (al1 := [(6, aI 0), (5, aI 0), (0, aR 1 0), (1, aI x1), (2, aI x2), (3, aI x3), (4, aI x4)]) dX0_give_4 (by decide) rfl ?_
  refine go_sub (al1 := [(0, aR 1 0), (1, aI x1), (2, aI x2), (3, aI x3), (4, aI x4), (5, aI 0), (6, aI 0)]) [2, 3, 4, 5, 6, 1, 0] rfl ?_
  exact hk6 x1 x2 x3 x4 0 0  V h
theorem clX0_give {d : Nat} {P : Option AV → Mem → Prop} {I6 : Int32 → Int32 → Int32 → Int32 → Int32 → Int32 → Mem → Prop}   (x1 : Int32) (x2 : Int32) (x3 : Int32) (x4 : Int32) (V : Mem) (hk6 : ∀ (x1 : Int32) (x2 : Int32) (x3 : Int32) (x4 : Int32) (x5 : Int32) (x6 : Int32), ∀ (V : Mem), I6 x1 x2 x3 x4 x5 x6 V → Gq (Kp (d + 1) mX0_give UX P) UX cX0_give 8 RX0 6 [(0, aR 1 0), (1, aI x1), (2, aI x2), (3, aI x3), (4, aI x4), (5, aI x5), (6, aI x6)] [] V) (h : wpX0_give_0 (Cl UX d) I6  x1 x2 x3 x4 V P) : Cl UX (d + 1) mX0_give [aR 1 0, aI x1, aI x2, aI x3, aI x4] V P :=
  cl_of [(0, aR 1 0), (1, aI x1), (2, aI x2), (3, aI x3), (4, aI x4)] (by decide) (fun _ => Nat.le_of_ble_eq_true rfl) (fun _ => rfl) (okX0_give_0   x1 x2 x3 x4 V hk6 h)
theorem dX0_joined_0 : decode cX0_joined 0 = .ok (.iload_n 0, 1) := by decide +kernel
theorem dX0_joined_1 : decode cX0_joined 1 = .ok (.tableswitch 186 38 62 #[172, 186, 186, 186, 123, 115, 186, 119, 186, 127, 186, 186, 186, 186, 186, 186, 186, 186, 186, 186, 186, 186, 139, 150, 161], 115) := by decide +kernel
theorem dX0_joined_116 : decode cX0_joined 116 = .ok (.iload_n 1, 1) := by decide +kernel
theorem dX0_joined_117 : decode cX0_joined 117 = .ok (.iload_n 2, 1) := by decide +kernel
theorem dX0_joined_118 : decode cX0_joined 118 = .ok (.iadd, 1) := by decide +kernel
theorem dX0_joined_119 : decode cX0_joined 119 = .ok (.ireturn, 1) := by decide +kernel
theorem dX0_joined_120 : decode cX0_joined 120 = .ok (.iload_n 1, 1) := by decide +kernel
theorem dX0_joined_121 : decode cX0_joined 121 = .ok (.iload_n 2, 1) := by decide +kernel
theorem dX0_joined_122 : decode cX0_joined 122 = .ok (.isub, 1) := by decide +kernel
theorem dX0_joined_123 : decode cX0_joined 123 = .ok (.ireturn, 1) := by decide +kernel
theorem dX0_joined_124 : decode cX0_joined 124 = .ok (.iload_n 1, 1) := by decide +kernel
theorem dX0_joined_125 : decode cX0_joined 125 = .ok (.iload_n 2, 1) := by decide +kernel
theorem dX0_joined_126 : decode cX0_joined 126 = .ok (.imul, 1) := by decide +kernel
theorem dX0_joined_127 : decode cX0_joined 127 = .ok (.ireturn, 1) := by decide +kernel
theorem dX0_joined_128 : decode cX0_joined 128 = .ok (.iload_n 2, 1) := by decide +kernel
theorem dX0_joined_129 : decode cX0_joined 129 = .ok (.ifCond .ne 7, 3) := by decide +kernel
theorem dX0_joined_132 : decode cX0_joined 132 = .ok (.iconst 0, 1) := by decide +kernel
theorem dX0_joined_133 : decode cX0_joined 133 = .ok (.goto 6, 3) := by decide +kernel
theorem dX0_joined_136 : decode cX0_joined 136 = .ok (.iload_n 1, 1) := by decide +kernel
theorem dX0_joined_137 : decode cX0_joined 137 = .ok (.iload_n 2, 1) := by decide +kernel
theorem dX0_joined_138 : decode cX0_joined 138 = .ok (.idiv, 1) := by decide +kernel
theorem dX0_joined_139 : decode cX0_joined 139 = .ok (.ireturn, 1) := by decide +kernel
theorem dX0_joined_140 : decode cX0_joined 140 = .ok (.iload_n 1, 1) := by decide +kernel
theorem dX0_joined_141 : decode cX0_joined 141 = .ok (.iload_n 2, 1) := by decide +kernel
theorem dX0_joined_142 : decode cX0_joined 142 = .ok (.if_icmp .ge 7, 3) := by decide +kernel
theorem dX0_joined_145 : decode cX0_joined 145 = .ok (.iconst 1, 1) := by decide +kernel
theorem dX0_joined_146 : decode cX0_joined 146 = .ok (.goto 4, 3) := by decide +kernel
theorem dX0_joined_149 : decode cX0_joined 149 = .ok (.iconst 0, 1) := by decide +kernel
theorem dX0_joined_150 : decode cX0_joined 150 = .ok (.ireturn, 1) := by decide +kernel
theorem dX0_joined_151 : decode cX0_joined 151 = .ok (.iload_n 1, 1) := by decide +kernel
theorem dX0_joined_152 : decode cX0_joined 152 = .ok (.iload_n 2, 1) := by decide +kernel
theorem dX0_joined_153 : decode cX0_joined 153 = .ok (.if_icmp .ne 7, 3) := by decide +kernel
theorem dX0_joined_156 : decode cX0_joined 156 = .ok (.iconst 1, 1) := by decide +kernel
theorem dX0_joined_157 : decode cX0_joined 157 = .ok (.goto 4, 3) := by decide +kernel
theorem dX0_joined_160 : decode cX0_joined 160 = .ok (.iconst 0, 1) := by decide +kernel
theorem dX0_joined_161 : decode cX0_joined 161 = .ok (.ireturn, 1) := by decide +kernel
theorem dX0_joined_162 : decode cX0_joined 162 = .ok (.iload_n 1, 1) := by decide +kernel
theorem dX0_joined_163 : decode cX0_joined 163 = .ok (.iload_n 2, 1) := by decide +kernel
theorem dX0_joined_164 : decode cX0_joined 164 = .ok (.if_icmp .le 7, 3) := by decide +kernel
theorem dX0_joined_167 : decode cX0_joined 167 = .ok (.iconst 1, 1) := by decide +kernel
theorem dX0_joined_168 : decode cX0_joined 168 = .ok (.goto 4, 3) := by decide +kernel
theorem dX0_joined_171 : decode cX0_joined 171 = .ok (.iconst 0, 1) := by decide +kernel
theorem dX0_joined_172 : decode cX0_joined 172 = .ok (.ireturn, 1) := by decide +kernel
theorem dX0_joined_173 : decode cX0_joined 173 = .ok (.iload_n 1, 1) := by decide +kernel
theorem dX0_joined_174 : decode cX0_joined 174 = .ok (.ifCond .eq 11, 3) := by decide +kernel
theorem dX0_joined_177 : decode cX0_joined 177 = .ok (.iload_n 2, 1) := by decide +kernel
theorem dX0_joined_178 : decode cX0_joined 178 = .ok (.ifCond .eq 7, 3) := by decide +kernel
theorem dX0_joined_181 : decode cX0_joined 181 = .ok (.iconst 1, 1) := by decide +kernel
theorem dX0_joined_182 : decode cX0_joined 182 = .ok (.goto 4, 3) := by decide +kernel
theorem dX0_joined_185 : decode cX0_joined 185 = .ok (.iconst 0, 1) := by decide +kernel
theorem dX0_joined_186 : decode cX0_joined 186 = .ok (.ireturn, 1) := by decide +kernel
theorem dX0_joined_187 : decode cX0_joined 187 = .ok (.iload_n 1, 1) := by decide +kernel
theorem dX0_joined_188 : decode cX0_joined 188 = .ok (.ifCond .ne 7, 3) := by decide +kernel
theorem dX0_joined_191 : decode cX0_joined 191 = .ok (.iload_n 2, 1) := by decide +kernel
theorem dX0_joined_192 : decode cX0_joined 192 = .ok (.ifCond .eq 7, 3) := by decide +kernel
theorem dX0_joined_195 : decode cX0_joined 195 = .ok (.iconst 1, 1) := by decide +kernel
theorem dX0_joined_196 : decode cX0_joined 196 = .ok (.goto 4, 3) := by decide +kernel
theorem dX0_joined_199 : decode cX0_joined 199 = .ok (.iconst 0, 1) := by decide +kernel
theorem dX0_joined_200 : decode cX0_joined 200 = .ok (.ireturn, 1) := by decide +kernel
def wpX0_joined_0 (C : CT)   (x0 : Int32) (x1 : Int32) (x2 : Int32) (V : Mem) (Q : Option AV → Mem → Prop) : Prop :=
  ((x0 = 38 → ((x1 = 0 → Q (some (aI 0)) V) ∧ (¬ x1 = 0 → ((x2 = 0 → Q (some (aI 0)) V) ∧ (¬ x2 = 0 → Q (some (aI 1)) V))))) ∧ (x0 = 42 → Q (some (aI (x1 * x2))) V) ∧ (x0 = 43 → Q (some (aI (x1 + x2))) V) ∧ (x0 = 45 → Q (some (aI (x1 - x2))) V) ∧ (x0 = 47 → ((¬ x2 = 0 → (¬ x2 = 0 ∧ Q (some (aI (x1 / x2))) V)) ∧ (x2 = 0 → Q (some (aI 0)) V))) ∧ (x0 = 60 → ((x2 ≤ x1 → Q (some (aI 0)) V) ∧ (¬ x2 ≤ x1 → Q (some (aI 1)) V))) ∧ (x0 = 61 → ((¬ x1 = x2 → Q (some (aI 0)) V) ∧ (x1 = x2 → Q (some (aI 1)) V))) ∧ (x0 = 62 → ((x1 ≤ x2 → Q (some (aI 0)) V) ∧ (¬ x1 ≤ x2 → Q (some (aI 1)) V))) ∧ (¬ x0 = 38 ∧ ¬ x0 = 42 ∧ ¬ x0 = 43 ∧ ¬ x0 = 45 ∧ ¬ x0 = 47 ∧ ¬ x0 = 60 ∧ ¬ x0 = 61 ∧ ¬ x0 = 62 → ((¬ x1 = 0 → Q (some (aI 1)) V) ∧ (x1 = 0 → ((x2 = 0 → Q (some (aI 0)) V) ∧ (¬ x2 = 0 → Q (some (aI 1)) V))))))
set_option maxRecDepth 10000 in
theorem okX0_joined_0 {d : Nat} {P : Option AV → Mem → Prop}    (x0 : Int32) (x1 : Int32) (x2 : Int32)  (V : Mem)  (h : wpX0_joined_0 (Cl UX d)   x0 x1 x2 V P) : Gq (Kp (d + 1) mX0_joined UX P) UX cX0_joined 3 RX0 0 [(0, aI x0), (1, aI x1), (2, aI x2)] [] V := by
  unfold wpX0_joined_0 at h
  refine go_iload_n (q := 0) dX0_joined_0 rfl rfl ?_
  by_cases c1_0 : x0 = 38
  · have h := h.1 c1_0
    refine go_tabC (z := 38) (off := 172) (tgt := 173) c1_0 dX0_joined_1 (by decide) (by decide) rfl (by decide) ?_
    refine go_iload_n (q := 1) dX0_joined_173 rfl rfl ?_
    refine go_if_eq (tgt := 185) dX0_joined_174 (by decide) (fun c_2 => ?_) (fun c_2 => ?_)
    · have h := h.1 c_2
      refine go_iconst (v := 0) dX0_joined_185 (by decide) ?_
      exact go_iret rfl dX0_joined_186 h
    · have h := h.2 c_2
      refine go_iload_n (q := 2) dX0_joined_177 rfl rfl ?_
      refine go_if_eq (tgt := 185) dX0_joined_178 (by decide) (fun c_1 => ?_) (fun c_1 => ?_)
      · have h := h.1 c_1
        refine go_iconst (v := 0) dX0_joined_185 (by decide) ?_
        exact go_iret rfl dX0_joined_186 h
      · have h := h.2 c_1
        refine go_iconst (v := 1) dX0_joined_181 (by decide) ?_
        refine go_goto (tgt := 186) dX0_joined_182 (by decide) ?_
        exact go_iret rfl dX0_joined_186 h
  by_cases c1_1 : x0 = 42
  · have h := h.2.1 c1_1
    refine go_tabC (z := 42) (off := 123) (tgt := 124) c1_1 dX0_joined_1 (by decide) (by decide) rfl (by decide) ?_
    refine go_iload_n (q := 1) dX0_joined_124 rfl rfl ?_
    refine go_iload_n (q := 2) dX0_joined_125 rfl rfl ?_
    refine go_imul dX0_joined_126 ?_
    exact go_iret rfl dX0_joined_127 h
  by_cases c1_2 : x0 = 43
  · have h := h.2.2.1 c1_2
    refine go_tabC (z := 43) (off := 115) (tgt := 116) c1_2 dX0_joined_1 (by decide) (by decide) rfl (by decide) ?_
    refine go_iload_n (q := 1) dX0_joined_116 rfl rfl ?_
    refine go_iload_n (q := 2) dX0_joined_117 rfl rfl ?_
    refine go_iadd dX0_joined_118 ?_
    exact go_iret rfl dX0_joined_119 h
  by_cases c1_3 : x0 = 45
  · have h := h.2.2.2.1 c1_3
    refine go_tabC (z := 45) (off := 119) (tgt := 120) c1_3 dX0_joined_1 (by decide) (by decide) rfl (by decide) ?_
    refine go_iload_n (q := 1) dX0_joined_120 rfl rfl ?_
    refine go_iload_n (q := 2) dX0_joined_121 rfl rfl ?_
    refine go_isub dX0_joined_122 ?_
    exact go_iret rfl dX0_joined_123 h
  by_cases c1_4 : x0 = 47
  · have h := h.2.2.2.2.1 c1_4
    refine go_tabC (z := 47) (off := 127) (tgt := 128) c1_4 dX0_joined_1 (by decide) (by decide) rfl (by decide) ?_
    refine go_iload_n (q := 2) dX0_joined_128 rfl rfl ?_
    refine go_if_ne (tgt := 136) dX0_joined_129 (by decide) (fun c_4 => ?_) (fun c_4 => ?_)
    · have h := h.1 c_4
      refine go_iload_n (q := 1) dX0_joined_136 rfl rfl ?_
      refine go_iload_n (q := 2) dX0_joined_137 rfl rfl ?_
      obtain ⟨c_3, h⟩ := h
      refine go_idiv dX0_joined_138 c_3 ?_
      exact go_iret rfl dX0_joined_139 h
    · have h := h.2 c_4
      refine go_iconst (v := 0) dX0_joined_132 (by decide) ?_
      refine go_goto (tgt := 139) dX0_joined_133 (by decide) ?_
      exact go_iret rfl dX0_joined_139 h
  by_cases c1_5 : x0 = 60
  · have h := h.2.2.2.2.2.1 c1_5
    refine go_tabC (z := 60) (off := 139) (tgt := 140) c1_5 dX0_joined_1 (by decide) (by decide) rfl (by decide) ?_
    refine go_iload_n (q := 1) dX0_joined_140 rfl rfl ?_
    refine go_iload_n (q := 2) dX0_joined_141 rfl rfl ?_
    refine go_icmp_ge (tgt := 149) dX0_joined_142 (by decide) (fun c_5 => ?_) (fun c_5 => ?_)
    · have h := h.1 c_5
      refine go_iconst (v := 0) dX0_joined_149 (by decide) ?_
      exact go_iret rfl dX0_joined_150 h
    · have h := h.2 c_5
      refine go_iconst (v := 1) dX0_joined_145 (by decide) ?_
      refine go_goto (tgt := 150) dX0_joined_146 (by decide) ?_
      exact go_iret rfl dX0_joined_150 h
  by_cases c1_6 : x0 = 61
  · have h := h.2.2.2.2.2.2.1 c1_6
    refine go_tabC (z := 61) (off := 150) (tgt := 151) c1_6 dX0_joined_1 (by decide) (by decide) rfl (by decide) ?_
    refine go_iload_n (q := 1) dX0_joined_151 rfl rfl ?_
    refine go_iload_n (q := 2) dX0_joined_152 rfl rfl ?_
    refine go_icmp_ne (tgt := 160) dX0_joined_153 (by decide) (fun c_6 => ?_) (fun c_6 => ?_)
    · have h := h.1 c_6
      refine go_iconst (v := 0) dX0_joined_160 (by decide) ?_
      exact go_iret rfl dX0_joined_161 h
    · have h := h.2 c_6
      refine go_iconst (v := 1) dX0_joined_156 (by decide) ?_
      refine go_goto (tgt := 161) dX0_joined_157 (by decide) ?_
      exact go_iret rfl dX0_joined_161 h
  by_cases c1_7 : x0 = 62
  · have h := h.2.2.2.2.2.2.2.1 c1_7
    refine go_tabC (z := 62) (off := 161) (tgt := 162) c1_7 dX0_joined_1 (by decide) (by decide) rfl (by decide) ?_
    refine go_iload_n (q := 1) dX0_joined_162 rfl rfl ?_
    refine go_iload_n (q := 2) dX0_joined_163 rfl rfl ?_
    refine go_icmp_le (tgt := 171) dX0_joined_164 (by decide) (fun c_7 => ?_) (fun c_7 => ?_)
    · have h := h.1 c_7
      refine go_iconst (v := 0) dX0_joined_171 (by decide) ?_
      exact go_iret rfl dX0_joined_172 h
    · have h := h.2 c_7
      refine go_iconst (v := 1) dX0_joined_167 (by decide) ?_
      refine go_goto (tgt := 172) dX0_joined_168 (by decide) ?_
      exact go_iret rfl dX0_joined_172 h
  have h := h.2.2.2.2.2.2.2.2 ⟨c1_0, c1_1, c1_2, c1_3, c1_4, c1_5, c1_6, c1_7⟩
  by_cases g1_39 : x0 = 39
  · refine go_tabC (z := 39) (off := 186) (tgt := 187) g1_39 dX0_joined_1 (by decide) (by decide) rfl (by decide) ?_
    refine go_iload_n (q := 1) dX0_joined_187 rfl rfl ?_
    refine go_if_ne (tgt := 195) dX0_joined_188 (by decide) (fun c_9 => ?_) (fun c_9 => ?_)
    · have h := h.1 c_9
      refine go_iconst (v := 1) dX0_joined_195 (by decide) ?_
      refine go_goto (tgt := 200) dX0_joined_196 (by decide) ?_
      exact go_iret rfl dX0_joined_200 h
    · have h := h.2 c_9
      refine go_iload_n (q := 2) dX0_joined_191 rfl rfl ?_
      refine go_if_eq (tgt := 199) dX0_joined_192 (by decide) (fun c_8 => ?_) (fun c_8 => ?_)
      · have h := h.1 c_8
        refine go_iconst (v := 0) dX0_joined_199 (by decide) ?_
        exact go_iret rfl dX0_joined_200 h
      · have h := h.2 c_8
        refine go_iconst (v := 1) dX0_joined_195 (by decide) ?_
        refine go_goto (tgt := 200) dX0_joined_196 (by decide) ?_
        exact go_iret rfl dX0_joined_200 h
  by_cases g1_40 : x0 = 40
  · refine go_tabC (z := 40) (off := 186) (tgt := 187) g1_40 dX0_joined_1 (by decide) (by decide) rfl (by decide) ?_
    refine go_iload_n (q := 1) dX0_joined_187 rfl rfl ?_
    refine go_if_ne (tgt := 195) dX0_joined_188 (by decide) (fun c_9 => ?_) (fun c_9 => ?_)
    · have h := h.1 c_9
      refine go_iconst (v := 1) dX0_joined_195 (by decide) ?_
      refine go_goto (tgt := 200) dX0_joined_196 (by decide) ?_
      exact go_iret rfl dX0_joined_200 h
    · have h := h.2 c_9
      refine go_iload_n (q := 2) dX0_joined_191 rfl rfl ?_
      refine go_if_eq (tgt := 199) dX0_joined_192 (by decide) (fun c_8 => ?_) (fun c_8 => ?_)
      · have h := h.1 c_8
        refine go_iconst (v := 0) dX0_joined_199 (by decide) ?_
        exact go_iret rfl dX0_joined_200 h
      · have h := h.2 c_8
        refine go_iconst (v := 1) dX0_joined_195 (by decide) ?_
        refine go_goto (tgt := 200) dX0_joined_196 (by decide) ?_
        exact go_iret rfl dX0_joined_200 h
  by_cases g1_41 : x0 = 41
  · refine go_tabC (z := 41) (off := 186) (tgt := 187) g1_41 dX0_joined_1 (by decide) (by decide) rfl (by decide) ?_
    refine go_iload_n (q := 1) dX0_joined_187 rfl rfl ?_
    refine go_if_ne (tgt := 195) dX0_joined_188 (by decide) (fun c_9 => ?_) (fun c_9 => ?_)
    · have h := h.1 c_9
      refine go_iconst (v := 1) dX0_joined_195 (by decide) ?_
      refine go_goto (tgt := 200) dX0_joined_196 (by decide) ?_
      exact go_iret rfl dX0_joined_200 h
    · have h := h.2 c_9
      refine go_iload_n (q := 2) dX0_joined_191 rfl rfl ?_
      refine go_if_eq (tgt := 199) dX0_joined_192 (by decide) (fun c_8 => ?_) (fun c_8 => ?_)
      · have h := h.1 c_8
        refine go_iconst (v := 0) dX0_joined_199 (by decide) ?_
        exact go_iret rfl dX0_joined_200 h
      · have h := h.2 c_8
        refine go_iconst (v := 1) dX0_joined_195 (by decide) ?_
        refine go_goto (tgt := 200) dX0_joined_196 (by decide) ?_
        exact go_iret rfl dX0_joined_200 h
  by_cases g1_44 : x0 = 44
  · refine go_tabC (z := 44) (off := 186) (tgt := 187) g1_44 dX0_joined_1 (by decide) (by decide) rfl (by decide) ?_
    refine go_iload_n (q := 1) dX0_joined_187 rfl rfl ?_
    refine go_if_ne (tgt := 195) dX0_joined_188 (by decide) (fun c_9 => ?_) (fun c_9 => ?_)
    · have h := h.1 c_9
      refine go_iconst (v := 1) dX0_joined_195 (by decide) ?_
      refine go_goto (tgt := 200) dX0_joined_196 (by decide) ?_
      exact go_iret rfl dX0_joined_200 h
    · have h := h.2 c_9
      refine go_iload_n (q := 2) dX0_joined_191 rfl rfl ?_
      refine go_if_eq (tgt := 199) dX0_joined_192 (by decide) (fun c_8 => ?_) (fun c_8 => ?_)
      · have h := h.1 c_8
        refine go_iconst (v := 0) dX0_joined_199 (by decide) ?_
        exact go_iret rfl dX0_joined_200 h
      · have h := h.2 c_8
        refine go_iconst (v := 1) dX0_joined_195 (by decide) ?_
        refine go_goto (tgt := 200) dX0_joined_196 (by decide) ?_
        exact go_iret rfl dX0_joined_200 h
  by_cases g1_46 : x0 = 46
  · refine go_tabC (z := 46) (off := 186) (tgt := 187) g1_46 dX0_joined_1 (by decide) (by decide) rfl (by decide) ?_
    refine go_iload_n (q := 1) dX0_joined_187 rfl rfl ?_
    refine go_if_ne (tgt := 195) dX0_joined_188 (by decide) (fun c_9 => ?_) (fun c_9 => ?_)
    · have h := h.1 c_9
      refine go_iconst (v := 1) dX0_joined_195 (by decide) ?_
      refine go_goto (tgt := 200) dX0_joined_196 (by decide) ?_
      exact go_iret rfl dX0_joined_200 h
    · have h := h.2 c_9
      refine go_iload_n (q := 2) dX0_joined_191 rfl rfl ?_
      refine go_if_eq (tgt := 199) dX0_joined_192 (by decide) (fun c_8 => ?_) (fun c_8 => ?_)
      · have h := h.1 c_8
        refine go_iconst (v := 0) dX0_joined_199 (by decide) ?_
        exact go_iret rfl dX0_joined_200 h
      · have h := h.2 c_8
        refine go_iconst (v := 1) dX0_joined_195 (by decide) ?_
        refine go_goto (tgt := 200) dX0_joined_196 (by decide) ?_
        exact go_iret rfl dX0_joined_200 h
  by_cases g1_48 : x0 = 48
  · refine go_tabC (z := 48) (off := 186) (tgt := 187) g1_48 dX0_joined_1 (by decide) (by decide) rfl (by decide) ?_
    refine go_iload_n (q := 1) dX0_joined_187 rfl rfl ?_
    refine go_if_ne (tgt := 195) dX0_joined_188 (by decide) (fun c_9 => ?_) (fun c_9 => ?_)
    · have h := h.1 c_9
      refine go_iconst (v := 1) dX0_joined_195 (by decide) ?_
      refine go_goto (tgt := 200) dX0_joined_196 (by decide) ?_
      exact go_iret rfl dX0_joined_200 h
    · have h := h.2 c_9
      refine go_iload_n (q := 2) dX0_joined_191 rfl rfl ?_
      refine go_if_eq (tgt := 199) dX0_joined_192 (by decide) (fun c_8 => ?_) (fun c_8 => ?_)
      · have h := h.1 c_8
        refine go_iconst (v := 0) dX0_joined_199 (by decide) ?_
        exact go_iret rfl dX0_joined_200 h
      · have h := h.2 c_8
        refine go_iconst (v := 1) dX0_joined_195 (by decide) ?_
        refine go_goto (tgt := 200) dX0_joined_196 (by decide) ?_
        exact go_iret rfl dX0_joined_200 h
  by_cases g1_49 : x0 = 49
  · refine go_tabC (z := 49) (off := 186) (tgt := 187) g1_49 dX0_joined_1 (by decide) (by decide) rfl (by decide) ?_
    refine go_iload_n (q := 1) dX0_joined_187 rfl rfl ?_
    refine go_if_ne (tgt := 195) dX0_joined_188 (by decide) (fun c_9 => ?_) (fun c_9 => ?_)
    · have h := h.1 c_9
      refine go_iconst (v := 1) dX0_joined_195 (by decide) ?_
      refine go_goto (tgt := 200) dX0_joined_196 (by decide) ?_
      exact go_iret rfl dX0_joined_200 h
    · have h := h.2 c_9
      refine go_iload_n (q := 2) dX0_joined_191 rfl rfl ?_
      refine go_if_eq (tgt := 199) dX0_joined_192 (by decide) (fun c_8 => ?_) (fun c_8 => ?_)
      · have h := h.1 c_8
        refine go_iconst (v := 0) dX0_joined_199 (by decide) ?_
        exact go_iret rfl dX0_joined_200 h
      · have h := h.2 c_8
        refine go_iconst (v := 1) dX0_joined_195 (by decide) ?_
        refine go_goto (tgt := 200) dX0_joined_196 (by decide) ?_
        exact go_iret rfl dX0_joined_200 h
  by_cases g1_50 : x0 = 50
  · refine go_tabC (z := 50) (off := 186) (tgt := 187) g1_50 dX0_joined_1 (by decide) (by decide) rfl (by decide) ?_
    refine go_iload_n (q := 1) dX0_joined_187 rfl rfl ?_
    refine go_if_ne (tgt := 195) dX0_joined_188 (by decide) (fun c_9 => ?_) (fun c_9 => ?_)
    · have h := h.1 c_9
      refine go_iconst (v := 1) dX0_joined_195 (by decide) ?_
      refine go_goto (tgt := 200) dX0_joined_196 (by decide) ?_
      exact go_iret rfl dX0_joined_200 h
    · have h := h.2 c_9
      refine go_iload_n (q := 2) dX0_joined_191 rfl rfl ?_
      refine go_if_eq (tgt := 199) dX0_joined_192 (by decide) (fun c_8 => ?_) (fun c_8 => ?_)
      · have h := h.1 c_8
        refine go_iconst (v := 0) dX0_joined_199 (by decide) ?_
        exact go_iret rfl dX0_joined_200 h
      · have h := h.2 c_8
        refine go_iconst (v := 1) dX0_joined_195 (by decide) ?_
        refine go_goto (tgt := 200) dX0_joined_196 (by decide) ?_
        exact go_iret rfl dX0_joined_200 h
  by_cases g1_51 : x0 = 51
  · refine go_tabC (z := 51) (off := 186) (tgt := 187) g1_51 dX0_joined_1 (by decide) (by decide) rfl (by decide) ?_
    refine go_iload_n (q := 1) dX0_joined_187 rfl rfl ?_
    refine go_if_ne (tgt := 195) dX0_joined_188 (by decide) (fun c_9 => ?_) (fun c_9 => ?_)
    · have h := h.1 c_9
      refine go_iconst (v := 1) dX0_joined_195 (by decide) ?_
      refine go_goto (tgt := 200) dX0_joined_196 (by decide) ?_
      exact go_iret rfl dX0_joined_200 h
    · have h := h.2 c_9
      refine go_iload_n (q := 2) dX0_joined_191 rfl rfl ?_
      refine go_if_eq (tgt := 199) dX0_joined_192 (by decide) (fun c_8 => ?_) (fun c_8 => ?_)
      · have h := h.1 c_8
        refine go_iconst (v := 0) dX0_joined_199 (by decide) ?_
        exact go_iret rfl dX0_joined_200 h
      · have h := h.2 c_8
        refine go_iconst (v := 1) dX0_joined_195 (by decide) ?_
        refine go_goto (tgt := 200) dX0_joined_196 (by decide) ?_
        exact go_iret rfl dX0_joined_200 h
  by_cases g1_52 : x0 = 52
  · refine go_tabC (z := 52) (off := 186) (tgt := 187) g1_52 dX0_joined_1 (by decide) (by decide) rfl (by decide) ?_
    refine go_iload_n (q := 1) dX0_joined_187 rfl rfl ?_
    refine go_if_ne (tgt := 195) dX0_joined_188 (by decide) (fun c_9 => ?_) (fun c_9 => ?_)
    · have h := h.1 c_9
      refine go_iconst (v := 1) dX0_joined_195 (by decide) ?_
      refine go_goto (tgt := 200) dX0_joined_196 (by decide) ?_
      exact go_iret rfl dX0_joined_200 h
    · have h := h.2 c_9
      refine go_iload_n (q := 2) dX0_joined_191 rfl rfl ?_
      refine go_if_eq (tgt := 199) dX0_joined_192 (by decide) (fun c_8 => ?_) (fun c_8 => ?_)
      · have h := h.1 c_8
        refine go_iconst (v := 0) dX0_joined_199 (by decide) ?_
        exact go_iret rfl dX0_joined_200 h
      · have h := h.2 c_8
        refine go_iconst (v := 1) dX0_joined_195 (by decide) ?_
        refine go_goto (tgt := 200) dX0_joined_196 (by decide) ?_
        exact go_iret rfl dX0_joined_200 h
  by_cases g1_53 : x0 = 53
  · refine go_tabC (z := 53) (off := 186) (tgt := 187) g1_53 dX0_joined_1 (by decide) (by decide) rfl (by decide) ?_
    refine go_iload_n (q := 1) dX0_joined_187 rfl rfl ?_
    refine go_if_ne (tgt := 195) dX0_joined_188 (by decide) (fun c_9 => ?_) (fun c_9 => ?_)
    · have h := h.1 c_9
      refine go_iconst (v := 1) dX0_joined_195 (by decide) ?_
      refine go_goto (tgt := 200) dX0_joined_196 (by decide) ?_
      exact go_iret rfl dX0_joined_200 h
    · have h := h.2 c_9
      refine go_iload_n (q := 2) dX0_joined_191 rfl rfl ?_
      refine go_if_eq (tgt := 199) dX0_joined_192 (by decide) (fun c_8 => ?_) (fun c_8 => ?_)
      · have h := h.1 c_8
        refine go_iconst (v := 0) dX0_joined_199 (by decide) ?_
        exact go_iret rfl dX0_joined_200 h
      · have h := h.2 c_8
        refine go_iconst (v := 1) dX0_joined_195 (by decide) ?_
        refine go_goto (tgt := 200) dX0_joined_196 (by decide) ?_
        exact go_iret rfl dX0_joined_200 h
  by_cases g1_54 : x0 = 54
  · refine go_tabC (z := 54) (off := 186) (tgt := 187) g1_54 dX0_joined_1 (by decide) (by decide) rfl (by decide) ?_
    refine go_iload_n (q := 1) dX0_joined_187 rfl rfl ?_
    refine go_if_ne (tgt := 195) dX0_joined_188 (by decide) (fun c_9 => ?_) (fun c_9 => ?_)
    · have h := h.1 c_9
      refine go_iconst (v := 1) dX0_joined_195 (by decide) ?_
      refine go_goto (tgt := 200) dX0_joined_196 (by decide) ?_
      exact go_iret rfl dX0_joined_200 h
    · have h := h.2 c_9
      refine go_iload_n (q := 2) dX0_joined_191 rfl rfl ?_
      refine go_if_eq (tgt := 199) dX0_joined_192 (by decide) (fun c_8 => ?_) (fun c_8 => ?_)
      · have h := h.1 c_8
        refine go_iconst (v := 0) dX0_joined_199 (by decide) ?_
        exact go_iret rfl dX0_joined_200 h
      · have h := h.2 c_8
        refine go_iconst (v := 1) dX0_joined_195 (by decide) ?_
        refine go_goto (tgt := 200) dX0_joined_196 (by decide) ?_
        exact go_iret rfl dX0_joined_200 h
  by_cases g1_55 : x0 = 55
  · refine go_tabC (z := 55) (off := 186) (tgt := 187) g1_55 dX0_joined_1 (by decide) (by decide) rfl (by decide) ?_
    refine go_iload_n (q := 1) dX0_joined_187 rfl rfl ?_
    refine go_if_ne (tgt := 195) dX0_joined_188 (by decide) (fun c_9 => ?_) (fun c_9 => ?_)
    · have h := h.1 c_9
      refine go_iconst (v := 1) dX0_joined_195 (by decide) ?_
      refine go_goto (tgt := 200) dX0_joined_196 (by decide) ?_
      exact go_iret rfl dX0_joined_200 h
    · have h := h.2 c_9
      refine go_iload_n (q := 2) dX0_joined_191 rfl rfl ?_
      refine go_if_eq (tgt := 199) dX0_joined_192 (by decide) (fun c_8 => ?_) (fun c_8 => ?_)
      · have h := h.1 c_8
        refine go_iconst (v := 0) dX0_joined_199 (by decide) ?_
        exact go_iret rfl dX0_joined_200 h
      · have h := h.2 c_8
        refine go_iconst (v := 1) dX0_joined_195 (by decide) ?_
        refine go_goto (tgt := 200) dX0_joined_196 (by decide) ?_
        exact go_iret rfl dX0_joined_200 h
  by_cases g1_56 : x0 = 56
  · refine go_tabC (z := 56) (off := 186) (tgt := 187) g1_56 dX0_joined_1 (by decide) (by decide) rfl (by decide) ?_
    refine go_iload_n (q := 1) dX0_joined_187 rfl rfl ?_
    refine go_if_ne (tgt := 195) dX0_joined_188 (by decide) (fun c_9 => ?_) (fun c_9 => ?_)
    · have h := h.1 c_9
      refine go_iconst (v := 1) dX0_joined_195 (by decide) ?_
      refine go_goto (tgt := 200) dX0_joined_196 (by decide) ?_
      exact go_iret rfl dX0_joined_200 h
    · have h := h.2 c_9
      refine go_iload_n (q := 2) dX0_joined_191 rfl rfl ?_
      refine go_if_eq (tgt := 199) dX0_joined_192 (by decide) (fun c_8 => ?_) (fun c_8 => ?_)
      · have h := h.1 c_8
        refine go_iconst (v := 0) dX0_joined_199 (by decide) ?_
        exact go_iret rfl dX0_joined_200 h
      · have h := h.2 c_8
        refine go_iconst (v := 1) dX0_joined_195 (by decide) ?_
        refine go_goto (tgt := 200) dX0_joined_196 (by decide) ?_
        exact go_iret rfl dX0_joined_200 h
  by_cases g1_57 : x0 = 57
  · refine go_tabC (z := 57) (off := 186) (tgt := 187) g1_57 dX0_joined_1 (by decide) (by decide) rfl (by decide) ?_
    refine go_iload_n (q := 1) dX0_joined_187 rfl rfl ?_
    refine go_if_ne (tgt := 195) dX0_joined_188 (by decide) (fun c_9 => ?_) (fun c_9 => ?_)
    · have h := h.1 c_9
      refine go_iconst (v := 1) dX0_joined_195 (by decide) ?_
      refine go_goto (tgt := 200) dX0_joined_196 (by decide) ?_
      exact go_iret rfl dX0_joined_200 h
    · have h := h.2 c_9
      refine go_iload_n (q := 2) dX0_joined_191 rfl rfl ?_
      refine go_if_eq (tgt := 199) dX0_joined_192 (by decide) (fun c_8 => ?_) (fun c_8 => ?_)
      · have h := h.1 c_8
        refine go_iconst (v := 0) dX0_joined_199 (by decide) ?_
        exact go_iret rfl dX0_joined_200 h
      · have h := h.2 c_8
        refine go_iconst (v := 1) dX0_joined_195 (by decide) ?_
        refine go_goto (tgt := 200) dX0_joined_196 (by decide) ?_
        exact go_iret rfl dX0_joined_200 h
  by_cases g1_58 : x0 = 58
  · refine go_tabC (z := 58) (off := 186) (tgt := 187) g1_58 dX0_joined_1 (by decide) (by decide) rfl (by decide) ?_
    refine go_iload_n (q := 1) dX0_joined_187 rfl rfl ?_
    refine go_if_ne (tgt := 195) dX0_joined_188 (by decide) (fun c_9 => ?_) (fun c_9 => ?_)
    · have h := h.1 c_9
      refine go_iconst (v := 1) dX0_joined_195 (by decide) ?_
      refine go_goto (tgt := 200) dX0_joined_196 (by decide) ?_
      exact go_iret rfl dX0_joined_200 h
    · have h := h.2 c_9
      refine go_iload_n (q := 2) dX0_joined_191 rfl rfl ?_
      refine go_if_eq (tgt := 199) dX0_joined_192 (by decide) (fun c_8 => ?_) (fun c_8 => ?_)
      · have h := h.1 c_8
        refine go_iconst (v := 0) dX0_joined_199 (by decide) ?_
        exact go_iret rfl dX0_joined_200 h
      · have h := h.2 c_8
        refine go_iconst (v := 1) dX0_joined_195 (by decide) ?_
        refine go_goto (tgt := 200) dX0_joined_196 (by decide) ?_
        exact go_iret rfl dX0_joined_200 h
  by_cases g1_59 : x0 = 59
  · refine go_tabC (z := 59) (off := 186) (tgt := 187) g1_59 dX0_joined_1 (by decide) (by decide) rfl (by decide) ?_
    refine go_iload_n (q := 1) dX0_joined_187 rfl rfl ?_
    refine go_if_ne (tgt := 195) dX0_joined_188 (by decide) (fun c_9 => ?_) (fun c_9 => ?_)
    · have h := h.1 c_9
      refine go_iconst (v := 1) dX0_joined_195 (by decide) ?_
      refine go_goto (tgt := 200) dX0_joined_196 (by decide) ?_
      exact go_iret rfl dX0_joined_200 h
    · have h := h.2 c_9
      refine go_iload_n (q := 2) dX0_joined_191 rfl rfl ?_
      refine go_if_eq (tgt := 199) dX0_joined_192 (by decide) (fun c_8 => ?_) (fun c_8 => ?_)
      · have h := h.1 c_8
        refine go_iconst (v := 0) dX0_joined_199 (by decide) ?_
        exact go_iret rfl dX0_joined_200 h
      · have h := h.2 c_8
        refine go_iconst (v := 1) dX0_joined_195 (by decide) ?_
        refine go_goto (tgt := 200) dX0_joined_196 (by decide) ?_
        exact go_iret rfl dX0_joined_200 h
  have q_c1_0 := lv_neT c1_0 (show (38 : Int32).toInt = 38 from rfl)
  have q_c1_1 := lv_neT c1_1 (show (42 : Int32).toInt = 42 from rfl)
  have q_c1_2 := lv_neT c1_2 (show (43 : Int32).toInt = 43 from rfl)
  have q_c1_3 := lv_neT c1_3 (show (45 : Int32).toInt = 45 from rfl)
  have q_c1_4 := lv_neT c1_4 (show (47 : Int32).toInt = 47 from rfl)
  have q_c1_5 := lv_neT c1_5 (show (60 : Int32).toInt = 60 from rfl)
  have q_c1_6 := lv_neT c1_6 (show (61 : Int32).toInt = 61 from rfl)
  have q_c1_7 := lv_neT c1_7 (show (62 : Int32).toInt = 62 from rfl)
  have q_g1_39 := lv_neT g1_39 (show (39 : Int32).toInt = 39 from rfl)
  have q_g1_40 := lv_neT g1_40 (show (40 : Int32).toInt = 40 from rfl)
  have q_g1_41 := lv_neT g1_41 (show (41 : Int32).toInt = 41 from rfl)
  have q_g1_44 := lv_neT g1_44 (show (44 : Int32).toInt = 44 from rfl)
  have q_g1_46 := lv_neT g1_46 (show (46 : Int32).toInt = 46 from rfl)
  have q_g1_48 := lv_neT g1_48 (show (48 : Int32).toInt = 48 from rfl)
  have q_g1_49 := lv_neT g1_49 (show (49 : Int32).toInt = 49 from rfl)
  have q_g1_50 := lv_neT g1_50 (show (50 : Int32).toInt = 50 from rfl)
  have q_g1_51 := lv_neT g1_51 (show (51 : Int32).toInt = 51 from rfl)
  have q_g1_52 := lv_neT g1_52 (show (52 : Int32).toInt = 52 from rfl)
  have q_g1_53 := lv_neT g1_53 (show (53 : Int32).toInt = 53 from rfl)
  have q_g1_54 := lv_neT g1_54 (show (54 : Int32).toInt = 54 from rfl)
  have q_g1_55 := lv_neT g1_55 (show (55 : Int32).toInt = 55 from rfl)
  have q_g1_56 := lv_neT g1_56 (show (56 : Int32).toInt = 56 from rfl)
  have q_g1_57 := lv_neT g1_57 (show (57 : Int32).toInt = 57 from rfl)
  have q_g1_58 := lv_neT g1_58 (show (58 : Int32).toInt = 58 from rfl)
  have q_g1_59 := lv_neT g1_59 (show (59 : Int32).toInt = 59 from rfl)
  refine go_tabOut (tgt := 187) dX0_joined_1 (by omega) (by decide) ?_
  refine go_iload_n (q := 1) dX0_joined_187 rfl rfl ?_
  refine go_if_ne (tgt := 195) dX0_joined_188 (by decide) (fun c_9 => ?_) (fun c_9 => ?_)
  · have h := h.1 c_9
    refine go_iconst (v := 1) dX0_joined_195 (by decide) ?_
    refine go_goto (tgt := 200) dX0_joined_196 (by decide) ?_
    exact go_iret rfl dX0_joined_200 h
  · have h := h.2 c_9
    refine go_iload_n (q := 2) dX0_joined_191 rfl rfl ?_
    refine go_if_eq (tgt := 199) dX0_joined_192 (by decide) (fun c_8 => ?_) (fun c_8 => ?_)
    · have h := h.1 c_8
      refine go_iconst (v := 0) dX0_joined_199 (by decide) ?_
      exact go_iret rfl dX0_joined_200 h
    · have h := h.2 c_8
      refine go_iconst (v := 1) dX0_joined_195 (by decide) ?_
      refine go_goto (tgt := 200) dX0_joined_196 (by decide) ?_
      exact go_iret rfl dX0_joined_200 h
theorem clX0_joined {d : Nat} {P : Option AV → Mem → Prop}    (x0 : Int32) (x1 : Int32) (x2 : Int32) (V : Mem)  (h : wpX0_joined_0 (Cl UX d)   x0 x1 x2 V P) : Cl UX (d + 1) mX0_joined [aI x0, aI x1, aI x2] V P :=
  cl_of [(0, aI x0), (1, aI x1), (2, aI x2)] (by decide) (fun _ => Nat.le_of_ble_eq_true rfl) (fun _ => rfl) (okX0_joined_0   x0 x1 x2 V  h)
theorem dX1_readText_0 : decode cX1_readText 0 = .ok (.aload_n 0, 1) := by decide +kernel
theorem dX1_readText_1 : decode cX1_readText 1 = .ok (.iload_n 1, 1) := by decide +kernel
theorem dX1_readText_2 : decode cX1_readText 2 = .ok (.putfield 18, 3) := by decide +kernel
theorem dX1_readText_5 : decode cX1_readText 5 = .ok (.aload_n 0, 1) := by decide +kernel
theorem dX1_readText_6 : decode cX1_readText 6 = .ok (.iconst 0, 1) := by decide +kernel
theorem dX1_readText_7 : decode cX1_readText 7 = .ok (.putfield 22, 3) := by decide +kernel
theorem dX1_readText_10 : decode cX1_readText 10 = .ok (.aload_n 0, 1) := by decide +kernel
theorem dX1_readText_11 : decode cX1_readText 11 = .ok (.iconst 0, 1) := by decide +kernel
theorem dX1_readText_12 : decode cX1_readText 12 = .ok (.putfield 25, 3) := by decide +kernel
theorem dX1_readText_15 : decode cX1_readText 15 = .ok (.aload_n 0, 1) := by decide +kernel
theorem dX1_readText_16 : decode cX1_readText 16 = .ok (.iconst 0, 1) := by decide +kernel
theorem dX1_readText_17 : decode cX1_readText 17 = .ok (.putfield 28, 3) := by decide +kernel
theorem dX1_readText_20 : decode cX1_readText 20 = .ok (.aload_n 0, 1) := by decide +kernel
theorem dX1_readText_21 : decode cX1_readText 21 = .ok (.iconst 0, 1) := by decide +kernel
theorem dX1_readText_22 : decode cX1_readText 22 = .ok (.putfield 31, 3) := by decide +kernel
theorem dX1_readText_25 : decode cX1_readText 25 = .ok (.aload_n 0, 1) := by decide +kernel
theorem dX1_readText_26 : decode cX1_readText 26 = .ok (.invokevirtual 34, 3) := by decide +kernel
theorem dX1_readText_29 : decode cX1_readText 29 = .ok (.aload_n 0, 1) := by decide +kernel
theorem dX1_readText_30 : decode cX1_readText 30 = .ok (.invokevirtual 37, 3) := by decide +kernel
theorem dX1_readText_33 : decode cX1_readText 33 = .ok (.ifCond .eq 24, 3) := by decide +kernel
theorem dX1_readText_36 : decode cX1_readText 36 = .ok (.aload_n 0, 1) := by decide +kernel
theorem dX1_readText_37 : decode cX1_readText 37 = .ok (.iconst 0, 1) := by decide +kernel
theorem dX1_readText_38 : decode cX1_readText 38 = .ok (.iconst 0, 1) := by decide +kernel
theorem dX1_readText_39 : decode cX1_readText 39 = .ok (.iconst 0, 1) := by decide +kernel
theorem dX1_readText_40 : decode cX1_readText 40 = .ok (.invokevirtual 41, 3) := by decide +kernel
theorem dX1_readText_43 : decode cX1_readText 43 = .ok (.ifCond .eq 14, 3) := by decide +kernel
theorem dX1_readText_46 : decode cX1_readText 46 = .ok (.aload_n 0, 1) := by decide +kernel
theorem dX1_readText_47 : decode cX1_readText 47 = .ok (.getfield 31, 3) := by decide +kernel
theorem dX1_readText_50 : decode cX1_readText 50 = .ok (.ifCond .ne 7, 3) := by decide +kernel
theorem dX1_readText_53 : decode cX1_readText 53 = .ok (.iconst 1, 1) := by decide +kernel
theorem dX1_readText_54 : decode cX1_readText 54 = .ok (.goto 4, 3) := by decide +kernel
theorem dX1_readText_57 : decode cX1_readText 57 = .ok (.iconst 0, 1) := by decide +kernel
theorem dX1_readText_58 : decode cX1_readText 58 = .ok (.ireturn, 1) := by decide +kernel
def wpX1_readText_0 (C : CT)   (x1 : Int32) (V : Mem) (Q : Option AV → Mem → Prop) : Prop :=
  (∀ V_1 : Mem, V_1 = mu V 6 0 8 x1 → (∀ V_2 : Mem, V_2 = mu V_1 6 0 2 0 → (∀ V_3 : Mem, V_3 = mu V_2 6 0 4 0 → (∀ V_4 : Mem, V_4 = mu V_3 6 0 6 0 → (∀ V_5 : Mem, V_5 = mu V_4 6 0 7 0 → (cV C mX1_goOn [aR 6 0] V_5 (fun V_6 => (cI C mX1_readKey [aR 6 0] V_6 (fun x_8 V_7 => ((x_8 = 0 → Q (some (aI 0)) V_7) ∧ (¬ x_8 = 0 → (cI C mX1_readLevel [aR 6 0, aI 0, aI 0, aI 0] V_7 (fun x_10 V_9 => ((x_10 = 0 → Q (some (aI 0)) V_9) ∧ (¬ x_10 = 0 → ((¬ (V_9 6 0 7) = 0 → Q (some (aI 0)) V_9) ∧ ((V_9 6 0 7) = 0 → Q (some (aI 1)) V_9)))))))))))))))))
set_option maxRecDepth 10000 in
theorem okX1_readText_0 {d : Nat} {P : Option AV → Mem → Prop}    (x1 : Int32)  (V : Mem)  (h : wpX1_readText_0 (Cl UX d)   x1 V P) : Gq (Kp (d + 1) mX1_readText UX P) UX cX1_readText 2 RX1 0 [(0, aR 6 0), (1, aI x1)] [] V := by
  unfold wpX1_readText_0 at h
  refine go_aload_n (q := 0) dX1_readText_0 rfl rfl ?_
  refine go_iload_n (q := 1) dX1_readText_1 rfl rfl ?_
  refine go_puti fp_X1_18 dX1_readText_2 (mX (n := 1) (by decide) rfl (by omega)) ?_
  refine nmV (fun V_1 e_V_1 => ?_)
  have h := h V_1 e_V_1
  refine go_aload_n (q := 0) dX1_readText_5 rfl rfl ?_
  refine go_iconst (v := 0) dX1_readText_6 (by decide) ?_
  refine go_puti fp_X1_22 dX1_readText_7 (mX (n := 1) (by decide) rfl (by omega)) ?_
  refine nmV (fun V_2 e_V_2 => ?_)
  have h := h V_2 e_V_2
  refine go_aload_n (q := 0) dX1_readText_10 rfl rfl ?_
  refine go_iconst (v := 0) dX1_readText_11 (by decide) ?_
  refine go_puti fp_X1_25 dX1_readText_12 (mX (n := 1) (by decide) rfl (by omega)) ?_
  refine nmV (fun V_3 e_V_3 => ?_)
  have h := h V_3 e_V_3
  refine go_aload_n (q := 0) dX1_readText_15 rfl rfl ?_
  refine go_iconst (v := 0) dX1_readText_16 (by decide) ?_
  refine go_puti fp_X1_28 dX1_readText_17 (mX (n := 1) (by decide) rfl (by omega)) ?_
  refine nmV (fun V_4 e_V_4 => ?_)
  have h := h V_4 e_V_4
  refine go_aload_n (q := 0) dX1_readText_20 rfl rfl ?_
  refine go_iconst (v := 0) dX1_readText_21 (by decide) ?_
  refine go_puti fp_X1_31 dX1_readText_22 (mX (n := 1) (by decide) rfl (by omega)) ?_
  refine nmV (fun V_5 e_V_5 => ?_)
  have h := h V_5 e_V_5
  refine go_aload_n (q := 0) dX1_readText_25 rfl rfl ?_
  refine go_cVV (As := []) (st := []) (r := 6) (i := 0) mv_X1_goOn dX1_readText_26 ml_X1_34 (hr_Kp (Nat.le_refl d)) rfl rfl (mX (n := 1) (by decide) rfl (by omega)) rfl rfl (Nat.le_of_ble_eq_true rfl) h (fun V_6 h => ?_)
  refine go_aload_n (q := 0) dX1_readText_29 rfl rfl ?_
  refine go_cVI (As := []) (st := []) (r := 6) (i := 0) mv_X1_readKey dX1_readText_30 ml_X1_37 (hr_Kp (Nat.le_refl d)) rfl rfl (mX (n := 1) (by decide) rfl (by omega)) rfl rfl (Nat.le_of_ble_eq_true rfl) h (fun x_8 V_7 h => ?_)
  refine go_if_eq (tgt := 57) dX1_readText_33 (by decide) (fun c_13 => ?_) (fun c_13 => ?_)
  · have h := h.1 c_13
    refine go_iconst (v := 0) dX1_readText_57 (by decide) ?_
    exact go_bret rfl dX1_readText_58 (by decide) h
  · have h := h.2 c_13
    refine go_aload_n (q := 0) dX1_readText_36 rfl rfl ?_
    refine go_iconst (v := 0) dX1_readText_37 (by decide) ?_
    refine go_iconst (v := 0) dX1_readText_38 (by decide) ?_
    refine go_iconst (v := 0) dX1_readText_39 (by decide) ?_
    refine go_cVI (As := [aI 0, aI 0, aI 0]) (st := []) (r := 6) (i := 0) mv_X1_readLevel dX1_readText_40 ml_X1_41 (hr_Kp (Nat.le_refl d)) rfl rfl (mX (n := 1) (by decide) rfl (by omega)) rfl rfl (Nat.le_of_ble_eq_true rfl) h (fun x_10 V_9 h => ?_)
    refine go_if_eq (tgt := 57) dX1_readText_43 (by decide) (fun c_12 => ?_) (fun c_12 => ?_)
    · have h := h.1 c_12
      refine go_iconst (v := 0) dX1_readText_57 (by decide) ?_
      exact go_bret rfl dX1_readText_58 (by decide) h
    · have h := h.2 c_12
      refine go_aload_n (q := 0) dX1_readText_46 rfl rfl ?_
      refine go_geti fg_X1_31 dX1_readText_47 (mX (n := 1) (by decide) rfl (by omega)) ?_
      refine go_if_ne (tgt := 57) dX1_readText_50 (by decide) (fun c_11 => ?_) (fun c_11 => ?_)
      · have h := h.1 c_11
        refine go_iconst (v := 0) dX1_readText_57 (by decide) ?_
        exact go_bret rfl dX1_readText_58 (by decide) h
      · have h := h.2 c_11
        refine go_iconst (v := 1) dX1_readText_53 (by decide) ?_
        refine go_goto (tgt := 58) dX1_readText_54 (by decide) ?_
        exact go_bret rfl dX1_readText_58 (by decide) h
theorem clX1_readText {d : Nat} {P : Option AV → Mem → Prop}    (x1 : Int32) (V : Mem)  (h : wpX1_readText_0 (Cl UX d)   x1 V P) : Cl UX (d + 1) mX1_readText [aR 6 0, aI x1] V P :=
  cl_of [(0, aR 6 0), (1, aI x1)] (by decide) (fun _ => Nat.le_of_ble_eq_true rfl) (fun _ => rfl) (okX1_readText_0   x1 V  h)
theorem dX1_readLevel_0 : decode cX1_readLevel 0 = .ok (.iload_n 1, 1) := by decide +kernel
theorem dX1_readLevel_1 : decode cX1_readLevel 1 = .ok (.iconst 5, 1) := by decide +kernel
theorem dX1_readLevel_2 : decode cX1_readLevel 2 = .ok (.if_icmp .lt 10, 3) := by decide +kernel
theorem dX1_readLevel_5 : decode cX1_readLevel 5 = .ok (.aload_n 0, 1) := by decide +kernel
theorem dX1_readLevel_6 : decode cX1_readLevel 6 = .ok (.iload_n 2, 1) := by decide +kernel
theorem dX1_readLevel_7 : decode cX1_readLevel 7 = .ok (.iload_n 3, 1) := by decide +kernel
theorem dX1_readLevel_8 : decode cX1_readLevel 8 = .ok (.invokevirtual 56, 3) := by decide +kernel
theorem dX1_readLevel_11 : decode cX1_readLevel 11 = .ok (.ireturn, 1) := by decide +kernel
theorem dX1_readLevel_12 : decode cX1_readLevel 12 = .ok (.aload_n 0, 1) := by decide +kernel
theorem dX1_readLevel_13 : decode cX1_readLevel 13 = .ok (.iload_n 1, 1) := by decide +kernel
theorem dX1_readLevel_14 : decode cX1_readLevel 14 = .ok (.iconst 1, 1) := by decide +kernel
theorem dX1_readLevel_15 : decode cX1_readLevel 15 = .ok (.iadd, 1) := by decide +kernel
theorem dX1_readLevel_16 : decode cX1_readLevel 16 = .ok (.iload_n 2, 1) := by decide +kernel
theorem dX1_readLevel_17 : decode cX1_readLevel 17 = .ok (.iload_n 3, 1) := by decide +kernel
theorem dX1_readLevel_18 : decode cX1_readLevel 18 = .ok (.invokevirtual 41, 3) := by decide +kernel
theorem dX1_readLevel_21 : decode cX1_readLevel 21 = .ok (.ifCond .ne 5, 3) := by decide +kernel
theorem dX1_readLevel_24 : decode cX1_readLevel 24 = .ok (.iconst 0, 1) := by decide +kernel
theorem dX1_readLevel_25 : decode cX1_readLevel 25 = .ok (.ireturn, 1) := by decide +kernel
theorem dX1_readLevel_26 : decode cX1_readLevel 26 = .ok (.iload_n 1, 1) := by decide +kernel
theorem dX1_readLevel_27 : decode cX1_readLevel 27 = .ok (.iconst 2, 1) := by decide +kernel
theorem dX1_readLevel_28 : decode cX1_readLevel 28 = .ok (.if_icmp .ne 7, 3) := by decide +kernel
theorem dX1_readLevel_31 : decode cX1_readLevel 31 = .ok (.iconst 1, 1) := by decide +kernel
theorem dX1_readLevel_32 : decode cX1_readLevel 32 = .ok (.goto 5, 3) := by decide +kernel
theorem dX1_readLevel_35 : decode cX1_readLevel 35 = .ok (.bipush 96, 2) := by decide +kernel
theorem dX1_readLevel_37 : decode cX1_readLevel 37 = .ok (.istore 4, 2) := by decide +kernel
theorem dX1_readLevel_39 : decode cX1_readLevel 39 = .ok (.iconst 0, 1) := by decide +kernel
theorem dX1_readLevel_40 : decode cX1_readLevel 40 = .ok (.istore 5, 2) := by decide +kernel
theorem dX1_readLevel_42 : decode cX1_readLevel 42 = .ok (.iload 5, 2) := by decide +kernel
theorem dX1_readLevel_44 : decode cX1_readLevel 44 = .ok (.iload 4, 2) := by decide +kernel
theorem dX1_readLevel_46 : decode cX1_readLevel 46 = .ok (.if_icmp .ge 57, 3) := by decide +kernel
theorem dX1_readLevel_49 : decode cX1_readLevel 49 = .ok (.aload_n 0, 1) := by decide +kernel
theorem dX1_readLevel_50 : decode cX1_readLevel 50 = .ok (.iload_n 1, 1) := by decide +kernel
theorem dX1_readLevel_51 : decode cX1_readLevel 51 = .ok (.invokevirtual 60, 3) := by decide +kernel
theorem dX1_readLevel_54 : decode cX1_readLevel 54 = .ok (.ifCond .eq 49, 3) := by decide +kernel
theorem dX1_readLevel_57 : decode cX1_readLevel 57 = .ok (.aload_n 0, 1) := by decide +kernel
theorem dX1_readLevel_58 : decode cX1_readLevel 58 = .ok (.getfield 15, 3) := by decide +kernel
theorem dX1_readLevel_61 : decode cX1_readLevel 61 = .ok (.aload_n 0, 1) := by decide +kernel
theorem dX1_readLevel_62 : decode cX1_readLevel 62 = .ok (.getfield 64, 3) := by decide +kernel
theorem dX1_readLevel_65 : decode cX1_readLevel 65 = .ok (.iaload, 1) := by decide +kernel
theorem dX1_readLevel_66 : decode cX1_readLevel 66 = .ok (.istore 6, 2) := by decide +kernel
theorem dX1_readLevel_68 : decode cX1_readLevel 68 = .ok (.aload_n 0, 1) := by decide +kernel
theorem dX1_readLevel_69 : decode cX1_readLevel 69 = .ok (.invokevirtual 34, 3) := by decide +kernel
theorem dX1_readLevel_72 : decode cX1_readLevel 72 = .ok (.aload_n 0, 1) := by decide +kernel
theorem dX1_readLevel_73 : decode cX1_readLevel 73 = .ok (.iload_n 1, 1) := by decide +kernel
theorem dX1_readLevel_74 : decode cX1_readLevel 74 = .ok (.iconst 1, 1) := by decide +kernel
theorem dX1_readLevel_75 : decode cX1_readLevel 75 = .ok (.iadd, 1) := by decide +kernel
theorem dX1_readLevel_76 : decode cX1_readLevel 76 = .ok (.iload_n 2, 1) := by decide +kernel
theorem dX1_readLevel_77 : decode cX1_readLevel 77 = .ok (.iload_n 3, 1) := by decide +kernel
theorem dX1_readLevel_78 : decode cX1_readLevel 78 = .ok (.invokevirtual 41, 3) := by decide +kernel
theorem dX1_readLevel_81 : decode cX1_readLevel 81 = .ok (.ifCond .ne 5, 3) := by decide +kernel
theorem dX1_readLevel_84 : decode cX1_readLevel 84 = .ok (.iconst 0, 1) := by decide +kernel
theorem dX1_readLevel_85 : decode cX1_readLevel 85 = .ok (.ireturn, 1) := by decide +kernel
theorem dX1_readLevel_86 : decode cX1_readLevel 86 = .ok (.aload_n 0, 1) := by decide +kernel
theorem dX1_readLevel_87 : decode cX1_readLevel 87 = .ok (.sipush 20000, 3) := by decide +kernel
theorem dX1_readLevel_90 : decode cX1_readLevel 90 = .ok (.iload 6, 2) := by decide +kernel
theorem dX1_readLevel_92 : decode cX1_readLevel 92 = .ok (.iadd, 1) := by decide +kernel
theorem dX1_readLevel_93 : decode cX1_readLevel 93 = .ok (.invokevirtual 69, 3) := by decide +kernel
theorem dX1_readLevel_96 : decode cX1_readLevel 96 = .ok (.pop, 1) := by decide +kernel
theorem dX1_readLevel_97 : decode cX1_readLevel 97 = .ok (.iinc 5 1, 3) := by decide +kernel
theorem dX1_readLevel_100 : decode cX1_readLevel 100 = .ok (.goto (-58), 3) := by decide +kernel
theorem dX1_readLevel_103 : decode cX1_readLevel 103 = .ok (.iconst 1, 1) := by decide +kernel
theorem dX1_readLevel_104 : decode cX1_readLevel 104 = .ok (.ireturn, 1) := by decide +kernel
def wpX1_readLevel_42 (C : CT) (I42 : Int32 → Int32 → Int32 → Int32 → Int32 → Mem → Prop)  (x1 : Int32) (x2 : Int32) (x3 : Int32) (x4 : Int32) (x5 : Int32) (V : Mem) (Q : Option AV → Mem → Prop) : Prop :=
  ((x4 ≤ x5 → Q (some (aI 1)) V) ∧ (¬ x4 ≤ x5 → (cI C mX1_isSignOf [aR 6 0, aI x1] V (fun x_2 V_1 => ((x_2 = 0 → Q (some (aI 1)) V_1) ∧ (¬ x_2 = 0 → (∃ j_3 : Nat, (V_1 6 0 5) = nI j_3 ∧ j_3 < 96 ∧ (∀ z_4 : Int32, z_4 = (V_1 17 0 j_3) → (cV C mX1_goOn [aR 6 0] V_1 (fun V_5 => (cI C mX1_readLevel [aR 6 0, aI (x1 + 1), aI x2, aI x3] V_5 (fun x_7 V_6 => ((¬ x_7 = 0 → (cI C mX1_addStep [aR 6 0, aI (20000 + z_4)] V_6 (fun x_9 V_8 => I42 x1 x2 x3 x4 (x5 + 1) V_8))) ∧ (x_7 = 0 → Q (some (aI 0)) V_6))))))))))))))
set_option maxRecDepth 10000 in
theorem okX1_readLevel_42 {d : Nat} {P : Option AV → Mem → Prop} {I42 : Int32 → Int32 → Int32 → Int32 → Int32 → Mem → Prop}   (x1 : Int32) (x2 : Int32) (x3 : Int32) (x4 : Int32) (x5 : Int32)  (V : Mem) (hk42 : ∀ (x1 : Int32) (x2 : Int32) (x3 : Int32) (x4 : Int32) (x5 : Int32), ∀ (V : Mem), I42 x1 x2 x3 x4 x5 V → Gq (Kp (d + 1) mX1_readLevel UX P) UX cX1_readLevel 7 RX1 42 [(0, aR 6 0), (1, aI x1), (2, aI x2), (3, aI x3), (4, aI x4), (5, aI x5)] [] V) (h : wpX1_readLevel_42 (Cl UX d) I42  x1 x2 x3 x4 x5 V P) : Gq (Kp (d + 1) mX1_readLevel UX P) UX cX1_readLevel 7 RX1 42 [(0, aR 6 0), (1, aI x1), (2, aI x2), (3, aI x3), (4, aI x4), (5, aI x5)] [] V := by
  unfold wpX1_readLevel_42 at h
  refine go_iload (q := 5) dX1_readLevel_42 rfl ?_
  refine go_iload (q := 4) dX1_readLevel_44 rfl ?_
  refine go_icmp_ge (tgt := 103) dX1_readLevel_46 (by decide) (fun c_12 => ?_) (fun c_12 => ?_)
  · have h := h.1 c_12
    refine go_iconst (v := 1) dX1_readLevel_103 (by decide) ?_
    exact go_bret rfl dX1_readLevel_104 (by decide) h
  · have h := h.2 c_12
    refine go_aload_n (q := 0) dX1_readLevel_49 rfl rfl ?_
    refine go_iload_n (q := 1) dX1_readLevel_50 rfl rfl ?_
    refine go_cVI (As := [aI x1]) (st := []) (r := 6) (i := 0) mv_X1_isSignOf dX1_readLevel_51 ml_X1_60 (hr_Kp (Nat.le_refl d)) rfl rfl (mX (n := 1) (by decide) rfl (by omega)) rfl rfl (Nat.le_of_ble_eq_true rfl) h (fun x_2 V_1 h => ?_)
    refine go_if_eq (tgt := 103) dX1_readLevel_54 (by decide) (fun c_11 => ?_) (fun c_11 => ?_)
    · have h := h.1 c_11
      refine go_iconst (v := 1) dX1_readLevel_103 (by decide) ?_
      exact go_bret rfl dX1_readLevel_104 (by decide) h
    · have h := h.2 c_11
      refine go_aload_n (q := 0) dX1_readLevel_57 rfl rfl ?_
      refine go_getr fg_X1_15 dX1_readLevel_58 (mX (n := 1) (by decide) rfl (by omega)) ?_
      refine go_aload_n (q := 0) dX1_readLevel_61 rfl rfl ?_
      refine go_geti fg_X1_64 dX1_readLevel_62 (mX (n := 1) (by decide) rfl (by omega)) ?_
      obtain ⟨j_3, e_j_3, l_j_3, h⟩ := h
      refine go_iald (r := 17) (n := 96) (j := j_3) rfl (by decide) dX1_readLevel_65 (mX (n := 1) (by decide) rfl (by omega)) e_j_3 l_j_3 ?_
      refine nmI (fun z_4 e_z_4 => ?_)
      have h := h z_4 e_z_4
      refine go_istore (al1 := [(6, aI z_4), (0, aR 6 0), (1, aI x1), (2, aI x2), (3, aI x3), (4, aI x4), (5, aI x5)]) dX1_readLevel_66 (by decide) rfl ?_
      refine go_aload_n (q := 1) dX1_readLevel_68 rfl rfl ?_
      refine go_cVV (As := []) (st := []) (r := 6) (i := 0) mv_X1_goOn dX1_readLevel_69 ml_X1_34 (hr_Kp (Nat.le_refl d)) rfl rfl (mX (n := 1) (by decide) rfl (by omega)) rfl rfl (Nat.le_of_ble_eq_true rfl) h (fun V_5 h => ?_)
      refine go_aload_n (q := 1) dX1_readLevel_72 rfl rfl ?_
      refine go_iload_n (q := 2) dX1_readLevel_73 rfl rfl ?_
      refine go_iconst (v := 1) dX1_readLevel_74 (by decide) ?_
      refine go_iadd dX1_readLevel_75 ?_
      refine go_iload_n (q := 3) dX1_readLevel_76 rfl rfl ?_
      refine go_iload_n (q := 4) dX1_readLevel_77 rfl rfl ?_
      refine go_cVI (As := [aI (x1 + 1), aI x2, aI x3]) (st := []) (r := 6) (i := 0) mv_X1_readLevel dX1_readLevel_78 ml_X1_41 (hr_Kp (Nat.le_refl d)) rfl rfl (mX (n := 1) (by decide) rfl (by omega)) rfl rfl (Nat.le_of_ble_eq_true rfl) h (fun x_7 V_6 h => ?_)
      refine go_if_ne (tgt := 86) dX1_readLevel_81 (by decide) (fun c_10 => ?_) (fun c_10 => ?_)
      · have h := h.1 c_10
        refine go_aload_n (q := 1) dX1_readLevel_86 rfl rfl ?_
        refine go_sipush (v := 20000) dX1_readLevel_87 (by decide) ?_
        refine go_iload (q := 0) dX1_readLevel_90 rfl ?_
        refine go_iadd dX1_readLevel_92 ?_
        refine go_cVI (As := [aI (20000 + z_4)]) (st := []) (r := 6) (i := 0) mv_X1_addStep dX1_readLevel_93 ml_X1_69 (hr_Kp (Nat.le_refl d)) rfl rfl (mX (n := 1) (by decide) rfl (by omega)) rfl rfl (Nat.le_of_ble_eq_true rfl) h (fun x_9 V_8 h => ?_)
        refine go_pop dX1_readLevel_96 rfl ?_
        refine go_iinc (q := 6) (y := 1) (al1 := [(5, aI (x5 + 1)), (6, aI z_4), (0, aR 6 0), (1, aI x1), (2, aI x2), (3, aI x3), (4, aI x4)]) dX1_readLevel_97 rfl (by decide) (by decide) rfl ?_
        refine go_goto (tgt := 42) dX1_readLevel_100 (by decide) ?_
        refine go_sub (al1 := [(0, aR 6 0), (1, aI x1), (2, aI x2), (3, aI x3), (4, aI x4), (5, aI (x5 + 1))]) [2, 3, 4, 5, 6, 0] rfl ?_
        exact hk42 x1 x2 x3 x4 (x5 + 1)  V_8 h
      · have h := h.2 c_10
        refine go_iconst (v := 0) dX1_readLevel_84 (by decide) ?_
        exact go_bret rfl dX1_readLevel_85 (by decide) h
def wpX1_readLevel_0 (C : CT) (I42 : Int32 → Int32 → Int32 → Int32 → Int32 → Mem → Prop)  (x1 : Int32) (x2 : Int32) (x3 : Int32) (V : Mem) (Q : Option AV → Mem → Prop) : Prop :=
  ((x1 < 5 → (cI C mX1_readLevel [aR 6 0, aI (x1 + 1), aI x2, aI x3] V (fun x_2 V_1 => ((¬ x_2 = 0 → ((¬ x1 = 2 → I42 x1 x2 x3 96 0 V_1) ∧ (x1 = 2 → I42 x1 x2 x3 1 0 V_1))) ∧ (x_2 = 0 → Q (some (aI 0)) V_1))))) ∧ (¬ x1 < 5 → (cI C mX1_readPiece [aR 6 0, aI x2, aI x3] V (fun x_6 V_5 => ((x_6 = 0 ∨ x_6 = 1) ∧ Q (some (aI x_6)) V_5)))))
set_option maxRecDepth 10000 in
theorem okX1_readLevel_0 {d : Nat} {P : Option AV → Mem → Prop} {I42 : Int32 → Int32 → Int32 → Int32 → Int32 → Mem → Prop}   (x1 : Int32) (x2 : Int32) (x3 : Int32)  (V : Mem) (hk42 : ∀ (x1 : Int32) (x2 : Int32) (x3 : Int32) (x4 : Int32) (x5 : Int32), ∀ (V : Mem), I42 x1 x2 x3 x4 x5 V → Gq (Kp (d + 1) mX1_readLevel UX P) UX cX1_readLevel 7 RX1 42 [(0, aR 6 0), (1, aI x1), (2, aI x2), (3, aI x3), (4, aI x4), (5, aI x5)] [] V) (h : wpX1_readLevel_0 (Cl UX d) I42  x1 x2 x3 V P) : Gq (Kp (d + 1) mX1_readLevel UX P) UX cX1_readLevel 7 RX1 0 [(0, aR 6 0), (1, aI x1), (2, aI x2), (3, aI x3)] [] V := by
  unfold wpX1_readLevel_0 at h
  refine go_iload_n (q := 1) dX1_readLevel_0 rfl rfl ?_
  refine go_iconst (v := 5) dX1_readLevel_1 (by decide) ?_
  refine go_icmp_lt (tgt := 12) dX1_readLevel_2 (by decide) (fun c_7 => ?_) (fun c_7 => ?_)
  · have h := h.1 c_7
    refine go_aload_n (q := 0) dX1_readLevel_12 rfl rfl ?_
    refine go_iload_n (q := 1) dX1_readLevel_13 rfl rfl ?_
    refine go_iconst (v := 1) dX1_readLevel_14 (by decide) ?_
    refine go_iadd dX1_readLevel_15 ?_
    refine go_iload_n (q := 2) dX1_readLevel_16 rfl rfl ?_
    refine go_iload_n (q := 3) dX1_readLevel_17 rfl rfl ?_
    refine go_cVI (As := [aI (x1 + 1), aI x2, aI x3]) (st := []) (r := 6) (i := 0) mv_X1_readLevel dX1_readLevel_18 ml_X1_41 (hr_Kp (Nat.le_refl d)) rfl rfl (mX (n := 1) (by decide) rfl (by omega)) rfl rfl (Nat.le_of_ble_eq_true rfl) h (fun x_2 V_1 h => ?_)
    refine go_if_ne (tgt := 26) dX1_readLevel_21 (by decide) (fun c_4 => ?_) (fun c_4 => ?_)
    · have h := h.1 c_4
      refine go_iload_n (q := 1) dX1_readLevel_26 rfl rfl ?_
      refine go_iconst (v := 2) dX1_readLevel_27 (by decide) ?_
      refine go_icmp_ne (tgt := 35) dX1_readLevel_28 (by decide) (fun c_3 => ?_) (fun c_3 => ?_)
      · have h := h.1 c_3
        refine go_bipush (v := 96) dX1_readLevel_35 (by decide) ?_
        refine go_istore (al1 := [(4, aI 96), (0, aR 6 0), (1, aI x1), (2, aI x2), (3, aI x3)]) dX1_readLevel_37 (by decide) rfl ?_
        refine go_iconst (v := 0) dX1_readLevel_39 (by decide) ?_
        refine go_istore (al1 := [(5, aI 0), (4, aI 96), (0, aR 6 0), (1, aI x1), (2, aI x2), (3, aI x3)]) dX1_readLevel_40 (by decide) rfl ?_
        refine go_sub (al1 := [(0, aR 6 0), (1, aI x1), (2, aI x2), (3, aI x3), (4, aI 96), (5, aI 0)]) [2, 3, 4, 5, 1, 0] rfl ?_
        exact hk42 x1 x2 x3 96 0  V_1 h
      · have h := h.2 c_3
        refine go_iconst (v := 1) dX1_readLevel_31 (by decide) ?_
        refine go_goto (tgt := 37) dX1_readLevel_32 (by decide) ?_
        refine go_istore (al1 := [(4, aI 1), (0, aR 6 0), (1, aI x1), (2, aI x2), (3, aI x3)]) dX1_readLevel_37 (by decide) rfl ?_
        refine go_iconst (v := 0) dX1_readLevel_39 (by decide) ?_
        refine go_istore (al1 := [(5, aI 0), (4, aI 1), (0, aR 6 0), (1, aI x1), (2, aI x2), (3, aI x3)]) dX1_readLevel_40 (by decide) rfl ?_
        refine go_sub (al1 := [(0, aR 6 0), (1, aI x1), (2, aI x2), (3, aI x3), (4, aI 1), (5, aI 0)]) [2, 3, 4, 5, 1, 0] rfl ?_
        exact hk42 x1 x2 x3 1 0  V_1 h
    · have h := h.2 c_4
      refine go_iconst (v := 0) dX1_readLevel_24 (by decide) ?_
      exact go_bret rfl dX1_readLevel_25 (by decide) h
  · have h := h.2 c_7
    refine go_aload_n (q := 0) dX1_readLevel_5 rfl rfl ?_
    refine go_iload_n (q := 2) dX1_readLevel_6 rfl rfl ?_
    refine go_iload_n (q := 3) dX1_readLevel_7 rfl rfl ?_
    refine go_cVI (As := [aI x2, aI x3]) (st := []) (r := 6) (i := 0) mv_X1_readPiece dX1_readLevel_8 ml_X1_56 (hr_Kp (Nat.le_refl d)) rfl rfl (mX (n := 1) (by decide) rfl (by omega)) rfl rfl (Nat.le_of_ble_eq_true rfl) h (fun x_6 V_5 h => ?_)
    exact go_bret rfl dX1_readLevel_11 h.1 h.2
theorem clX1_readLevel {d : Nat} {P : Option AV → Mem → Prop} {I42 : Int32 → Int32 → Int32 → Int32 → Int32 → Mem → Prop}   (x1 : Int32) (x2 : Int32) (x3 : Int32) (V : Mem) (hk42 : ∀ (x1 : Int32) (x2 : Int32) (x3 : Int32) (x4 : Int32) (x5 : Int32), ∀ (V : Mem), I42 x1 x2 x3 x4 x5 V → Gq (Kp (d + 1) mX1_readLevel UX P) UX cX1_readLevel 7 RX1 42 [(0, aR 6 0), (1, aI x1), (2, aI x2), (3, aI x3), (4, aI x4), (5, aI x5)] [] V) (h : wpX1_readLevel_0 (Cl UX d) I42  x1 x2 x3 V P) : Cl UX (d + 1) mX1_readLevel [aR 6 0, aI x1, aI x2, aI x3] V P :=
  cl_of [(0, aR 6 0), (1, aI x1), (2, aI x2), (3, aI x3)] (by decide) (fun _ => Nat.le_of_ble_eq_true rfl) (fun _ => rfl) (okX1_readLevel_0   x1 x2 x3 V hk42 h)
theorem dX1_readPiece_0 : decode cX1_readPiece 0 = .ok (.aload_n 0, 1) := by decide +kernel
theorem dX1_readPiece_1 : decode cX1_readPiece 1 = .ok (.getfield 31, 3) := by decide +kernel
theorem dX1_readPiece_4 : decode cX1_readPiece 4 = .ok (.iconst 2, 1) := by decide +kernel
theorem dX1_readPiece_5 : decode cX1_readPiece 5 = .ok (.if_icmp .ne 33, 3) := by decide +kernel
theorem dX1_readPiece_8 : decode cX1_readPiece 8 = .ok (.aload_n 0, 1) := by decide +kernel
theorem dX1_readPiece_9 : decode cX1_readPiece 9 = .ok (.getfield 28, 3) := by decide +kernel
theorem dX1_readPiece_12 : decode cX1_readPiece 12 = .ok (.aload_n 0, 1) := by decide +kernel
theorem dX1_readPiece_13 : decode cX1_readPiece 13 = .ok (.getfield 64, 3) := by decide +kernel
theorem dX1_readPiece_16 : decode cX1_readPiece 16 = .ok (.isub, 1) := by decide +kernel
theorem dX1_readPiece_17 : decode cX1_readPiece 17 = .ok (.iconst 4, 1) := by decide +kernel
theorem dX1_readPiece_18 : decode cX1_readPiece 18 = .ok (.if_icmp .gt 18, 3) := by decide +kernel
theorem dX1_readPiece_21 : decode cX1_readPiece 21 = .ok (.aload_n 0, 1) := by decide +kernel
theorem dX1_readPiece_22 : decode cX1_readPiece 22 = .ok (.aload_n 0, 1) := by decide +kernel
theorem dX1_readPiece_23 : decode cX1_readPiece 23 = .ok (.invokevirtual 72, 3) := by decide +kernel
theorem dX1_readPiece_26 : decode cX1_readPiece 26 = .ok (.invokevirtual 76, 3) := by decide +kernel
theorem dX1_readPiece_29 : decode cX1_readPiece 29 = .ok (.ifCond .eq 7, 3) := by decide +kernel
theorem dX1_readPiece_32 : decode cX1_readPiece 32 = .ok (.iconst 1, 1) := by decide +kernel
theorem dX1_readPiece_33 : decode cX1_readPiece 33 = .ok (.goto 4, 3) := by decide +kernel
theorem dX1_readPiece_36 : decode cX1_readPiece 36 = .ok (.iconst 0, 1) := by decide +kernel
theorem dX1_readPiece_37 : decode cX1_readPiece 37 = .ok (.ireturn, 1) := by decide +kernel
theorem dX1_readPiece_38 : decode cX1_readPiece 38 = .ok (.aload_n 0, 1) := by decide +kernel
theorem dX1_readPiece_39 : decode cX1_readPiece 39 = .ok (.getfield 31, 3) := by decide +kernel
theorem dX1_readPiece_42 : decode cX1_readPiece 42 = .ok (.iconst 1, 1) := by decide +kernel
theorem dX1_readPiece_43 : decode cX1_readPiece 43 = .ok (.if_icmp .ne 30, 3) := by decide +kernel
theorem dX1_readPiece_46 : decode cX1_readPiece 46 = .ok (.aload_n 0, 1) := by decide +kernel
theorem dX1_readPiece_47 : decode cX1_readPiece 47 = .ok (.invokevirtual 79, 3) := by decide +kernel
theorem dX1_readPiece_50 : decode cX1_readPiece 50 = .ok (.istore_n 3, 1) := by decide +kernel
theorem dX1_readPiece_51 : decode cX1_readPiece 51 = .ok (.iload_n 3, 1) := by decide +kernel
theorem dX1_readPiece_52 : decode cX1_readPiece 52 = .ok (.ifCond .lt 19, 3) := by decide +kernel
theorem dX1_readPiece_55 : decode cX1_readPiece 55 = .ok (.aload_n 0, 1) := by decide +kernel
theorem dX1_readPiece_56 : decode cX1_readPiece 56 = .ok (.sipush 10000, 3) := by decide +kernel
theorem dX1_readPiece_59 : decode cX1_readPiece 59 = .ok (.iload_n 3, 1) := by decide +kernel
theorem dX1_readPiece_60 : decode cX1_readPiece 60 = .ok (.iadd, 1) := by decide +kernel
theorem dX1_readPiece_61 : decode cX1_readPiece 61 = .ok (.invokevirtual 76, 3) := by decide +kernel
theorem dX1_readPiece_64 : decode cX1_readPiece 64 = .ok (.ifCond .eq 7, 3) := by decide +kernel
theorem dX1_readPiece_67 : decode cX1_readPiece 67 = .ok (.iconst 1, 1) := by decide +kernel
theorem dX1_readPiece_68 : decode cX1_readPiece 68 = .ok (.goto 4, 3) := by decide +kernel
theorem dX1_readPiece_71 : decode cX1_readPiece 71 = .ok (.iconst 0, 1) := by decide +kernel
theorem dX1_readPiece_72 : decode cX1_readPiece 72 = .ok (.ireturn, 1) := by decide +kernel
theorem dX1_readPiece_73 : decode cX1_readPiece 73 = .ok (.aload_n 0, 1) := by decide +kernel
theorem dX1_readPiece_74 : decode cX1_readPiece 74 = .ok (.bipush 33, 2) := by decide +kernel
theorem dX1_readPiece_76 : decode cX1_readPiece 76 = .ok (.invokevirtual 82, 3) := by decide +kernel
theorem dX1_readPiece_79 : decode cX1_readPiece 79 = .ok (.ifCond .eq 40, 3) := by decide +kernel
theorem dX1_readPiece_82 : decode cX1_readPiece 82 = .ok (.iload_n 2, 1) := by decide +kernel
theorem dX1_readPiece_83 : decode cX1_readPiece 83 = .ok (.bipush 8, 2) := by decide +kernel
theorem dX1_readPiece_85 : decode cX1_readPiece 85 = .ok (.if_icmp .ge 34, 3) := by decide +kernel
theorem dX1_readPiece_88 : decode cX1_readPiece 88 = .ok (.aload_n 0, 1) := by decide +kernel
theorem dX1_readPiece_89 : decode cX1_readPiece 89 = .ok (.invokevirtual 34, 3) := by decide +kernel
theorem dX1_readPiece_92 : decode cX1_readPiece 92 = .ok (.aload_n 0, 1) := by decide +kernel
theorem dX1_readPiece_93 : decode cX1_readPiece 93 = .ok (.iload_n 1, 1) := by decide +kernel
theorem dX1_readPiece_94 : decode cX1_readPiece 94 = .ok (.iload_n 2, 1) := by decide +kernel
theorem dX1_readPiece_95 : decode cX1_readPiece 95 = .ok (.iconst 1, 1) := by decide +kernel
theorem dX1_readPiece_96 : decode cX1_readPiece 96 = .ok (.iadd, 1) := by decide +kernel
theorem dX1_readPiece_97 : decode cX1_readPiece 97 = .ok (.invokevirtual 56, 3) := by decide +kernel
theorem dX1_readPiece_100 : decode cX1_readPiece 100 = .ok (.ifCond .eq 17, 3) := by decide +kernel
theorem dX1_readPiece_103 : decode cX1_readPiece 103 = .ok (.aload_n 0, 1) := by decide +kernel
theorem dX1_readPiece_104 : decode cX1_readPiece 104 = .ok (.sipush 20033, 3) := by decide +kernel
theorem dX1_readPiece_107 : decode cX1_readPiece 107 = .ok (.invokevirtual 69, 3) := by decide +kernel
theorem dX1_readPiece_110 : decode cX1_readPiece 110 = .ok (.ifCond .eq 7, 3) := by decide +kernel
theorem dX1_readPiece_113 : decode cX1_readPiece 113 = .ok (.iconst 1, 1) := by decide +kernel
theorem dX1_readPiece_114 : decode cX1_readPiece 114 = .ok (.goto 4, 3) := by decide +kernel
theorem dX1_readPiece_117 : decode cX1_readPiece 117 = .ok (.iconst 0, 1) := by decide +kernel
theorem dX1_readPiece_118 : decode cX1_readPiece 118 = .ok (.ireturn, 1) := by decide +kernel
theorem dX1_readPiece_119 : decode cX1_readPiece 119 = .ok (.aload_n 0, 1) := by decide +kernel
theorem dX1_readPiece_120 : decode cX1_readPiece 120 = .ok (.bipush 40, 2) := by decide +kernel
theorem dX1_readPiece_122 : decode cX1_readPiece 122 = .ok (.invokevirtual 82, 3) := by decide +kernel
theorem dX1_readPiece_125 : decode cX1_readPiece 125 = .ok (.ifCond .eq 42, 3) := by decide +kernel
theorem dX1_readPiece_128 : decode cX1_readPiece 128 = .ok (.iload_n 1, 1) := by decide +kernel
theorem dX1_readPiece_129 : decode cX1_readPiece 129 = .ok (.bipush 8, 2) := by decide +kernel
theorem dX1_readPiece_131 : decode cX1_readPiece 131 = .ok (.if_icmp .ge 36, 3) := by decide +kernel
theorem dX1_readPiece_134 : decode cX1_readPiece 134 = .ok (.aload_n 0, 1) := by decide +kernel
theorem dX1_readPiece_135 : decode cX1_readPiece 135 = .ok (.invokevirtual 34, 3) := by decide +kernel
theorem dX1_readPiece_138 : decode cX1_readPiece 138 = .ok (.aload_n 0, 1) := by decide +kernel
theorem dX1_readPiece_139 : decode cX1_readPiece 139 = .ok (.iconst 0, 1) := by decide +kernel
theorem dX1_readPiece_140 : decode cX1_readPiece 140 = .ok (.iload_n 1, 1) := by decide +kernel
theorem dX1_readPiece_141 : decode cX1_readPiece 141 = .ok (.iconst 1, 1) := by decide +kernel
theorem dX1_readPiece_142 : decode cX1_readPiece 142 = .ok (.iadd, 1) := by decide +kernel
theorem dX1_readPiece_143 : decode cX1_readPiece 143 = .ok (.iload_n 2, 1) := by decide +kernel
theorem dX1_readPiece_144 : decode cX1_readPiece 144 = .ok (.invokevirtual 41, 3) := by decide +kernel
theorem dX1_readPiece_147 : decode cX1_readPiece 147 = .ok (.ifCond .eq 12, 3) := by decide +kernel
theorem dX1_readPiece_150 : decode cX1_readPiece 150 = .ok (.aload_n 0, 1) := by decide +kernel
theorem dX1_readPiece_151 : decode cX1_readPiece 151 = .ok (.bipush 41, 2) := by decide +kernel
theorem dX1_readPiece_153 : decode cX1_readPiece 153 = .ok (.invokevirtual 82, 3) := by decide +kernel
theorem dX1_readPiece_156 : decode cX1_readPiece 156 = .ok (.ifCond .ne 5, 3) := by decide +kernel
theorem dX1_readPiece_159 : decode cX1_readPiece 159 = .ok (.iconst 0, 1) := by decide +kernel
theorem dX1_readPiece_160 : decode cX1_readPiece 160 = .ok (.ireturn, 1) := by decide +kernel
theorem dX1_readPiece_161 : decode cX1_readPiece 161 = .ok (.aload_n 0, 1) := by decide +kernel
theorem dX1_readPiece_162 : decode cX1_readPiece 162 = .ok (.invokevirtual 34, 3) := by decide +kernel
theorem dX1_readPiece_165 : decode cX1_readPiece 165 = .ok (.iconst 1, 1) := by decide +kernel
theorem dX1_readPiece_166 : decode cX1_readPiece 166 = .ok (.ireturn, 1) := by decide +kernel
theorem dX1_readPiece_167 : decode cX1_readPiece 167 = .ok (.iconst 0, 1) := by decide +kernel
theorem dX1_readPiece_168 : decode cX1_readPiece 168 = .ok (.ireturn, 1) := by decide +kernel
def wpX1_readPiece_119 (C : CT)   (x1 : Int32) (x2 : Int32) (V : Mem) (Q : Option AV → Mem → Prop) : Prop :=
  (cI C mX1_isSign [aR 6 0, aI 40] V (fun x_2 V_1 => ((x_2 = 0 → Q (some (aI 0)) V_1) ∧ (¬ x_2 = 0 → ((8 ≤ x1 → Q (some (aI 0)) V_1) ∧ (¬ 8 ≤ x1 → (cV C mX1_goOn [aR 6 0] V_1 (fun V_3 => (cI C mX1_readLevel [aR 6 0, aI 0, aI (x1 + 1), aI x2] V_3 (fun x_5 V_4 => ((x_5 = 0 → Q (some (aI 0)) V_4) ∧ (¬ x_5 = 0 → (cI C mX1_isSign [aR 6 0, aI 41] V_4 (fun x_7 V_6 => ((¬ x_7 = 0 → (cV C mX1_goOn [aR 6 0] V_6 (fun V_8 => Q (some (aI 1)) V_8))) ∧ (x_7 = 0 → Q (some (aI 0)) V_6))))))))))))))))
set_option maxRecDepth 10000 in
theorem okX1_readPiece_119 {d : Nat} {P : Option AV → Mem → Prop}    (x1 : Int32) (x2 : Int32)  (V : Mem)  (h : wpX1_readPiece_119 (Cl UX d)   x1 x2 V P) : Gq (Kp (d + 1) mX1_readPiece UX P) UX cX1_readPiece 4 RX1 119 [(0, aR 6 0), (1, aI x1), (2, aI x2)] [] V := by
  unfold wpX1_readPiece_119 at h
  refine go_aload_n (q := 0) dX1_readPiece_119 rfl rfl ?_
  refine go_bipush (v := 40) dX1_readPiece_120 (by decide) ?_
  refine go_cVI (As := [aI 40]) (st := []) (r := 6) (i := 0) mv_X1_isSign dX1_readPiece_122 ml_X1_82 (hr_Kp (Nat.le_refl d)) rfl rfl (mX (n := 1) (by decide) rfl (by omega)) rfl rfl (Nat.le_of_ble_eq_true rfl) h (fun x_2 V_1 h => ?_)
  refine go_if_eq (tgt := 167) dX1_readPiece_125 (by decide) (fun c_12 => ?_) (fun c_12 => ?_)
  · have h := h.1 c_12
    refine go_iconst (v := 0) dX1_readPiece_167 (by decide) ?_
    exact go_bret rfl dX1_readPiece_168 (by decide) h
  · have h := h.2 c_12
    refine go_iload_n (q := 1) dX1_readPiece_128 rfl rfl ?_
    refine go_bipush (v := 8) dX1_readPiece_129 (by decide) ?_
    refine go_icmp_ge (tgt := 167) dX1_readPiece_131 (by decide) (fun c_11 => ?_) (fun c_11 => ?_)
    · have h := h.1 c_11
      refine go_iconst (v := 0) dX1_readPiece_167 (by decide) ?_
      exact go_bret rfl dX1_readPiece_168 (by decide) h
    · have h := h.2 c_11
      refine go_aload_n (q := 0) dX1_readPiece_134 rfl rfl ?_
      refine go_cVV (As := []) (st := []) (r := 6) (i := 0) mv_X1_goOn dX1_readPiece_135 ml_X1_34 (hr_Kp (Nat.le_refl d)) rfl rfl (mX (n := 1) (by decide) rfl (by omega)) rfl rfl (Nat.le_of_ble_eq_true rfl) h (fun V_3 h => ?_)
      refine go_aload_n (q := 0) dX1_readPiece_138 rfl rfl ?_
      refine go_iconst (v := 0) dX1_readPiece_139 (by decide) ?_
      refine go_iload_n (q := 1) dX1_readPiece_140 rfl rfl ?_
      refine go_iconst (v := 1) dX1_readPiece_141 (by decide) ?_
      refine go_iadd dX1_readPiece_142 ?_
      refine go_iload_n (q := 2) dX1_readPiece_143 rfl rfl ?_
      refine go_cVI (As := [aI 0, aI (x1 + 1), aI x2]) (st := []) (r := 6) (i := 0) mv_X1_readLevel dX1_readPiece_144 ml_X1_41 (hr_Kp (Nat.le_refl d)) rfl rfl (mX (n := 1) (by decide) rfl (by omega)) rfl rfl (Nat.le_of_ble_eq_true rfl) h (fun x_5 V_4 h => ?_)
      refine go_if_eq (tgt := 159) dX1_readPiece_147 (by decide) (fun c_10 => ?_) (fun c_10 => ?_)
      · have h := h.1 c_10
        refine go_iconst (v := 0) dX1_readPiece_159 (by decide) ?_
        exact go_bret rfl dX1_readPiece_160 (by decide) h
      · have h := h.2 c_10
        refine go_aload_n (q := 0) dX1_readPiece_150 rfl rfl ?_
        refine go_bipush (v := 41) dX1_readPiece_151 (by decide) ?_
        refine go_cVI (As := [aI 41]) (st := []) (r := 6) (i := 0) mv_X1_isSign dX1_readPiece_153 ml_X1_82 (hr_Kp (Nat.le_refl d)) rfl rfl (mX (n := 1) (by decide) rfl (by omega)) rfl rfl (Nat.le_of_ble_eq_true rfl) h (fun x_7 V_6 h => ?_)
        refine go_if_ne (tgt := 161) dX1_readPiece_156 (by decide) (fun c_9 => ?_) (fun c_9 => ?_)
        · have h := h.1 c_9
          refine go_aload_n (q := 0) dX1_readPiece_161 rfl rfl ?_
          refine go_cVV (As := []) (st := []) (r := 6) (i := 0) mv_X1_goOn dX1_readPiece_162 ml_X1_34 (hr_Kp (Nat.le_refl d)) rfl rfl (mX (n := 1) (by decide) rfl (by omega)) rfl rfl (Nat.le_of_ble_eq_true rfl) h (fun V_8 h => ?_)
          refine go_iconst (v := 1) dX1_readPiece_165 (by decide) ?_
          exact go_bret rfl dX1_readPiece_166 (by decide) h
        · have h := h.2 c_9
          refine go_iconst (v := 0) dX1_readPiece_159 (by decide) ?_
          exact go_bret rfl dX1_readPiece_160 (by decide) h
def wpX1_readPiece_0 (C : CT)   (x1 : Int32) (x2 : Int32) (V : Mem) (Q : Option AV → Mem → Prop) : Prop :=
  ((¬ (V 6 0 7) = 2 → ((¬ (V 6 0 7) = 1 → (cI C mX1_isSign [aR 6 0, aI 33] V (fun x_2 V_1 => ((x_2 = 0 → wpX1_readPiece_119 C   x1 x2 V_1 Q) ∧ (¬ x_2 = 0 → ((8 ≤ x2 → wpX1_readPiece_119 C   x1 x2 V_1 Q) ∧ (¬ 8 ≤ x2 → (cV C mX1_goOn [aR 6 0] V_1 (fun V_3 => (cI C mX1_readPiece [aR 6 0, aI x1, aI (x2 + 1)] V_3 (fun x_5 V_4 => ((x_5 = 0 → Q (some (aI 0)) V_4) ∧ (¬ x_5 = 0 → (cI C mX1_addStep [aR 6 0, aI 20033] V_4 (fun x_7 V_6 => ((x_7 = 0 → Q (some (aI 0)) V_6) ∧ (¬ x_7 = 0 → Q (some (aI 1)) V_6))))))))))))))))) ∧ ((V 6 0 7) = 1 → (cI C mX1_nameRead [aR 6 0] V (fun x_13 V_12 => ((x_13 < 0 → Q (some (aI 0)) V_12) ∧ (¬ x_13 < 0 → (cI C mX1_addOperand [aR 6 0, aI (10000 + x_13)] V_12 (fun x_15 V_14 => ((x_15 = 0 → Q (some (aI 0)) V_14) ∧ (¬ x_15 = 0 → Q (some (aI 1)) V_14))))))))))) ∧ ((V 6 0 7) = 2 → ((4 < ((V 6 0 6) - (V 6 0 5)) → Q (some (aI 0)) V) ∧ (¬ 4 < ((V 6 0 6) - (V 6 0 5)) → (cI C mX1_numberRead [aR 6 0] V (fun x_20 V_19 => (cI C mX1_addOperand [aR 6 0, aI x_20] V_19 (fun x_22 V_21 => ((x_22 = 0 → Q (some (aI 0)) V_21) ∧ (¬ x_22 = 0 → Q (some (aI 1)) V_21))))))))))
set_option maxRecDepth 10000 in
theorem okX1_readPiece_0 {d : Nat} {P : Option AV → Mem → Prop}    (x1 : Int32) (x2 : Int32)  (V : Mem)  (h : wpX1_readPiece_0 (Cl UX d)   x1 x2 V P) : Gq (Kp (d + 1) mX1_readPiece UX P) UX cX1_readPiece 4 RX1 0 [(0, aR 6 0), (1, aI x1), (2, aI x2)] [] V := by
  unfold wpX1_readPiece_0 at h
  refine go_aload_n (q := 0) dX1_readPiece_0 rfl rfl ?_
  refine go_geti fg_X1_31 dX1_readPiece_1 (mX (n := 1) (by decide) rfl (by omega)) ?_
  refine go_iconst (v := 2) dX1_readPiece_4 (by decide) ?_
  refine go_icmp_ne (tgt := 38) dX1_readPiece_5 (by decide) (fun c_25 => ?_) (fun c_25 => ?_)
  · have h := h.1 c_25
    refine go_aload_n (q := 0) dX1_readPiece_38 rfl rfl ?_
    refine go_geti fg_X1_31 dX1_readPiece_39 (mX (n := 1) (by decide) rfl (by omega)) ?_
    refine go_iconst (v := 1) dX1_readPiece_42 (by decide) ?_
    refine go_icmp_ne (tgt := 73) dX1_readPiece_43 (by decide) (fun c_18 => ?_) (fun c_18 => ?_)
    · have h := h.1 c_18
      refine go_aload_n (q := 0) dX1_readPiece_73 rfl rfl ?_
      refine go_bipush (v := 33) dX1_readPiece_74 (by decide) ?_
      refine go_cVI (As := [aI 33]) (st := []) (r := 6) (i := 0) mv_X1_isSign dX1_readPiece_76 ml_X1_82 (hr_Kp (Nat.le_refl d)) rfl rfl (mX (n := 1) (by decide) rfl (by omega)) rfl rfl (Nat.le_of_ble_eq_true rfl) h (fun x_2 V_1 h => ?_)
      refine go_if_eq (tgt := 119) dX1_readPiece_79 (by decide) (fun c_11 => ?_) (fun c_11 => ?_)
      · have h := h.1 c_11
        exact okX1_readPiece_119   x1 x2  V_1  h
      · have h := h.2 c_11
        refine go_iload_n (q := 2) dX1_readPiece_82 rfl rfl ?_
        refine go_bipush (v := 8) dX1_readPiece_83 (by decide) ?_
        refine go_icmp_ge (tgt := 119) dX1_readPiece_85 (by decide) (fun c_10 => ?_) (fun c_10 => ?_)
        · have h := h.1 c_10
          exact okX1_readPiece_119   x1 x2  V_1  h
        · have h := h.2 c_10
          refine go_aload_n (q := 0) dX1_readPiece_88 rfl rfl ?_
          refine go_cVV (As := []) (st := []) (r := 6) (i := 0) mv_X1_goOn dX1_readPiece_89 ml_X1_34 (hr_Kp (Nat.le_refl d)) rfl rfl (mX (n := 1) (by decide) rfl (by omega)) rfl rfl (Nat.le_of_ble_eq_true rfl) h (fun V_3 h => ?_)
          refine go_aload_n (q := 0) dX1_readPiece_92 rfl rfl ?_
          refine go_iload_n (q := 1) dX1_readPiece_93 rfl rfl ?_
          refine go_iload_n (q := 2) dX1_readPiece_94 rfl rfl ?_
          refine go_iconst (v := 1) dX1_readPiece_95 (by decide) ?_
          refine go_iadd dX1_readPiece_96 ?_
          refine go_cVI (As := [aI x1, aI (x2 + 1)]) (st := []) (r := 6) (i := 0) mv_X1_readPiece dX1_readPiece_97 ml_X1_56 (hr_Kp (Nat.le_refl d)) rfl rfl (mX (n := 1) (by decide) rfl (by omega)) rfl rfl (Nat.le_of_ble_eq_true rfl) h (fun x_5 V_4 h => ?_)
          refine go_if_eq (tgt := 117) dX1_readPiece_100 (by decide) (fun c_9 => ?_) (fun c_9 => ?_)
          · have h := h.1 c_9
            refine go_iconst (v := 0) dX1_readPiece_117 (by decide) ?_
            exact go_bret rfl dX1_readPiece_118 (by decide) h
          · have h := h.2 c_9
            refine go_aload_n (q := 0) dX1_readPiece_103 rfl rfl ?_
            refine go_sipush (v := 20033) dX1_readPiece_104 (by decide) ?_
            refine go_cVI (As := [aI 20033]) (st := []) (r := 6) (i := 0) mv_X1_addStep dX1_readPiece_107 ml_X1_69 (hr_Kp (Nat.le_refl d)) rfl rfl (mX (n := 1) (by decide) rfl (by omega)) rfl rfl (Nat.le_of_ble_eq_true rfl) h (fun x_7 V_6 h => ?_)
            refine go_if_eq (tgt := 117) dX1_readPiece_110 (by decide) (fun c_8 => ?_) (fun c_8 => ?_)
            · have h := h.1 c_8
              refine go_iconst (v := 0) dX1_readPiece_117 (by decide) ?_
              exact go_bret rfl dX1_readPiece_118 (by decide) h
            · have h := h.2 c_8
              refine go_iconst (v := 1) dX1_readPiece_113 (by decide) ?_
              refine go_goto (tgt := 118) dX1_readPiece_114 (by decide) ?_
              exact go_bret rfl dX1_readPiece_118 (by decide) h
    · have h := h.2 c_18
      refine go_aload_n (q := 0) dX1_readPiece_46 rfl rfl ?_
      refine go_cVI (As := []) (st := []) (r := 6) (i := 0) mv_X1_nameRead dX1_readPiece_47 ml_X1_79 (hr_Kp (Nat.le_refl d)) rfl rfl (mX (n := 1) (by decide) rfl (by omega)) rfl rfl (Nat.le_of_ble_eq_true rfl) h (fun x_13 V_12 h => ?_)
      refine go_istore_n (al1 := [(3, aI x_13), (0, aR 6 0), (1, aI x1), (2, aI x2)]) dX1_readPiece_50 rfl (by decide) rfl ?_
      refine go_iload_n (q := 0) dX1_readPiece_51 rfl rfl ?_
      refine go_if_lt (tgt := 71) dX1_readPiece_52 (by decide) (fun c_17 => ?_) (fun c_17 => ?_)
      · have h := h.1 c_17
        refine go_iconst (v := 0) dX1_readPiece_71 (by decide) ?_
        exact go_bret rfl dX1_readPiece_72 (by decide) h
      · have h := h.2 c_17
        refine go_aload_n (q := 1) dX1_readPiece_55 rfl rfl ?_
        refine go_sipush (v := 10000) dX1_readPiece_56 (by decide) ?_
        refine go_iload_n (q := 0) dX1_readPiece_59 rfl rfl ?_
        refine go_iadd dX1_readPiece_60 ?_
        refine go_cVI (As := [aI (10000 + x_13)]) (st := []) (r := 6) (i := 0) mv_X1_addOperand dX1_readPiece_61 ml_X1_76 (hr_Kp (Nat.le_refl d)) rfl rfl (mX (n := 1) (by decide) rfl (by omega)) rfl rfl (Nat.le_of_ble_eq_true rfl) h (fun x_15 V_14 h => ?_)
        refine go_if_eq (tgt := 71) dX1_readPiece_64 (by decide) (fun c_16 => ?_) (fun c_16 => ?_)
        · have h := h.1 c_16
          refine go_iconst (v := 0) dX1_readPiece_71 (by decide) ?_
          exact go_bret rfl dX1_readPiece_72 (by decide) h
        · have h := h.2 c_16
          refine go_iconst (v := 1) dX1_readPiece_67 (by decide) ?_
          refine go_goto (tgt := 72) dX1_readPiece_68 (by decide) ?_
          exact go_bret rfl dX1_readPiece_72 (by decide) h
  · have h := h.2 c_25
    refine go_aload_n (q := 0) dX1_readPiece_8 rfl rfl ?_
    refine go_geti fg_X1_28 dX1_readPiece_9 (mX (n := 1) (by decide) rfl (by omega)) ?_
    refine go_aload_n (q := 0) dX1_readPiece_12 rfl rfl ?_
    refine go_geti fg_X1_64 dX1_readPiece_13 (mX (n := 1) (by decide) rfl (by omega)) ?_
    refine go_isub dX1_readPiece_16 ?_
    refine go_iconst (v := 4) dX1_readPiece_17 (by decide) ?_
    refine go_icmp_gt (tgt := 36) dX1_readPiece_18 (by decide) (fun c_24 => ?_) (fun c_24 => ?_)
    · have h := h.1 c_24
      refine go_iconst (v := 0) dX1_readPiece_36 (by decide) ?_
      exact go_bret rfl dX1_readPiece_37 (by decide) h
    · have h := h.2 c_24
      refine go_aload_n (q := 0) dX1_readPiece_21 rfl rfl ?_
      refine go_aload_n (q := 0) dX1_readPiece_22 rfl rfl ?_
      refine go_cVI (As := []) (st := [aR 6 0]) (r := 6) (i := 0) mv_X1_numberRead dX1_readPiece_23 ml_X1_72 (hr_Kp (Nat.le_refl d)) rfl rfl (mX (n := 1) (by decide) rfl (by omega)) rfl rfl (Nat.le_of_ble_eq_true rfl) h (fun x_20 V_19 h => ?_)
      refine go_cVI (As := [aI x_20]) (st := []) (r := 6) (i := 0) mv_X1_addOperand dX1_readPiece_26 ml_X1_76 (hr_Kp (Nat.le_refl d)) rfl rfl (mX (n := 1) (by decide) rfl (by omega)) rfl rfl (Nat.le_of_ble_eq_true rfl) h (fun x_22 V_21 h => ?_)
      refine go_if_eq (tgt := 36) dX1_readPiece_29 (by decide) (fun c_23 => ?_) (fun c_23 => ?_)
      · have h := h.1 c_23
        refine go_iconst (v := 0) dX1_readPiece_36 (by decide) ?_
        exact go_bret rfl dX1_readPiece_37 (by decide) h
      · have h := h.2 c_23
        refine go_iconst (v := 1) dX1_readPiece_32 (by decide) ?_
        refine go_goto (tgt := 37) dX1_readPiece_33 (by decide) ?_
        exact go_bret rfl dX1_readPiece_37 (by decide) h
theorem clX1_readPiece {d : Nat} {P : Option AV → Mem → Prop}    (x1 : Int32) (x2 : Int32) (V : Mem)  (h : wpX1_readPiece_0 (Cl UX d)   x1 x2 V P) : Cl UX (d + 1) mX1_readPiece [aR 6 0, aI x1, aI x2] V P :=
  cl_of [(0, aR 6 0), (1, aI x1), (2, aI x2)] (by decide) (fun _ => Nat.le_of_ble_eq_true rfl) (fun _ => rfl) (okX1_readPiece_0   x1 x2 V  h)
theorem dX1_addOperand_0 : decode cX1_addOperand 0 = .ok (.aload_n 0, 1) := by decide +kernel
theorem dX1_addOperand_1 : decode cX1_addOperand 1 = .ok (.dup, 1) := by decide +kernel
theorem dX1_addOperand_2 : decode cX1_addOperand 2 = .ok (.getfield 25, 3) := by decide +kernel
theorem dX1_addOperand_5 : decode cX1_addOperand 5 = .ok (.iconst 1, 1) := by decide +kernel
theorem dX1_addOperand_6 : decode cX1_addOperand 6 = .ok (.iadd, 1) := by decide +kernel
theorem dX1_addOperand_7 : decode cX1_addOperand 7 = .ok (.putfield 25, 3) := by decide +kernel
theorem dX1_addOperand_10 : decode cX1_addOperand 10 = .ok (.aload_n 0, 1) := by decide +kernel
theorem dX1_addOperand_11 : decode cX1_addOperand 11 = .ok (.invokevirtual 34, 3) := by decide +kernel
theorem dX1_addOperand_14 : decode cX1_addOperand 14 = .ok (.aload_n 0, 1) := by decide +kernel
theorem dX1_addOperand_15 : decode cX1_addOperand 15 = .ok (.iload_n 1, 1) := by decide +kernel
theorem dX1_addOperand_16 : decode cX1_addOperand 16 = .ok (.invokevirtual 69, 3) := by decide +kernel
theorem dX1_addOperand_19 : decode cX1_addOperand 19 = .ok (.ireturn, 1) := by decide +kernel
def wpX1_addOperand_0 (C : CT)   (x1 : Int32) (V : Mem) (Q : Option AV → Mem → Prop) : Prop :=
  (∀ V_1 : Mem, V_1 = mu V 6 0 4 ((V 6 0 4) + 1) → (cV C mX1_goOn [aR 6 0] V_1 (fun V_2 => (cI C mX1_addStep [aR 6 0, aI x1] V_2 (fun x_4 V_3 => ((x_4 = 0 ∨ x_4 = 1) ∧ Q (some (aI x_4)) V_3))))))
set_option maxRecDepth 10000 in
theorem okX1_addOperand_0 {d : Nat} {P : Option AV → Mem → Prop}    (x1 : Int32)  (V : Mem)  (h : wpX1_addOperand_0 (Cl UX d)   x1 V P) : Gq (Kp (d + 1) mX1_addOperand UX P) UX cX1_addOperand 2 RX1 0 [(0, aR 6 0), (1, aI x1)] [] V := by
  unfold wpX1_addOperand_0 at h
  refine go_aload_n (q := 0) dX1_addOperand_0 rfl rfl ?_
  refine go_dup dX1_addOperand_1 rfl ?_
  refine go_geti fg_X1_25 dX1_addOperand_2 (mX (n := 1) (by decide) rfl (by omega)) ?_
  refine go_iconst (v := 1) dX1_addOperand_5 (by decide) ?_
  refine go_iadd dX1_addOperand_6 ?_
  refine go_puti fp_X1_25 dX1_addOperand_7 (mX (n := 1) (by decide) rfl (by omega)) ?_
  refine nmV (fun V_1 e_V_1 => ?_)
  have h := h V_1 e_V_1
  refine go_aload_n (q := 0) dX1_addOperand_10 rfl rfl ?_
  refine go_cVV (As := []) (st := []) (r := 6) (i := 0) mv_X1_goOn dX1_addOperand_11 ml_X1_34 (hr_Kp (Nat.le_refl d)) rfl rfl (mX (n := 1) (by decide) rfl (by omega)) rfl rfl (Nat.le_of_ble_eq_true rfl) h (fun V_2 h => ?_)
  refine go_aload_n (q := 0) dX1_addOperand_14 rfl rfl ?_
  refine go_iload_n (q := 1) dX1_addOperand_15 rfl rfl ?_
  refine go_cVI (As := [aI x1]) (st := []) (r := 6) (i := 0) mv_X1_addStep dX1_addOperand_16 ml_X1_69 (hr_Kp (Nat.le_refl d)) rfl rfl (mX (n := 1) (by decide) rfl (by omega)) rfl rfl (Nat.le_of_ble_eq_true rfl) h (fun x_4 V_3 h => ?_)
  exact go_bret rfl dX1_addOperand_19 h.1 h.2
theorem clX1_addOperand {d : Nat} {P : Option AV → Mem → Prop}    (x1 : Int32) (V : Mem)  (h : wpX1_addOperand_0 (Cl UX d)   x1 V P) : Cl UX (d + 1) mX1_addOperand [aR 6 0, aI x1] V P :=
  cl_of [(0, aR 6 0), (1, aI x1)] (by decide) (fun _ => Nat.le_of_ble_eq_true rfl) (fun _ => rfl) (okX1_addOperand_0   x1 V  h)
theorem dX1_addStep_0 : decode cX1_addStep 0 = .ok (.aload_n 0, 1) := by decide +kernel
theorem dX1_addStep_1 : decode cX1_addStep 1 = .ok (.getfield 22, 3) := by decide +kernel
theorem dX1_addStep_4 : decode cX1_addStep 4 = .ok (.bipush 96, 2) := by decide +kernel
theorem dX1_addStep_6 : decode cX1_addStep 6 = .ok (.if_icmp .lt 5, 3) := by decide +kernel
theorem dX1_addStep_9 : decode cX1_addStep 9 = .ok (.iconst 0, 1) := by decide +kernel
theorem dX1_addStep_10 : decode cX1_addStep 10 = .ok (.ireturn, 1) := by decide +kernel
theorem dX1_addStep_11 : decode cX1_addStep 11 = .ok (.aload_n 0, 1) := by decide +kernel
theorem dX1_addStep_12 : decode cX1_addStep 12 = .ok (.getfield 9, 3) := by decide +kernel
theorem dX1_addStep_15 : decode cX1_addStep 15 = .ok (.aload_n 0, 1) := by decide +kernel
theorem dX1_addStep_16 : decode cX1_addStep 16 = .ok (.getfield 22, 3) := by decide +kernel
theorem dX1_addStep_19 : decode cX1_addStep 19 = .ok (.iload_n 1, 1) := by decide +kernel
theorem dX1_addStep_20 : decode cX1_addStep 20 = .ok (.iastore, 1) := by decide +kernel
theorem dX1_addStep_21 : decode cX1_addStep 21 = .ok (.aload_n 0, 1) := by decide +kernel
theorem dX1_addStep_22 : decode cX1_addStep 22 = .ok (.dup, 1) := by decide +kernel
theorem dX1_addStep_23 : decode cX1_addStep 23 = .ok (.getfield 22, 3) := by decide +kernel
theorem dX1_addStep_26 : decode cX1_addStep 26 = .ok (.iconst 1, 1) := by decide +kernel
theorem dX1_addStep_27 : decode cX1_addStep 27 = .ok (.iadd, 1) := by decide +kernel
theorem dX1_addStep_28 : decode cX1_addStep 28 = .ok (.putfield 22, 3) := by decide +kernel
theorem dX1_addStep_31 : decode cX1_addStep 31 = .ok (.iconst 1, 1) := by decide +kernel
theorem dX1_addStep_32 : decode cX1_addStep 32 = .ok (.ireturn, 1) := by decide +kernel
def wpX1_addStep_0 (C : CT)   (x1 : Int32) (V : Mem) (Q : Option AV → Mem → Prop) : Prop :=
  (((V 6 0 2) < 96 → (∃ j_1 : Nat, (V 6 0 2) = nI j_1 ∧ j_1 < 96 ∧ (∀ V_2 : Mem, V_2 = mu V 18 0 j_1 x1 → (∀ V_3 : Mem, V_3 = mu V_2 6 0 2 ((V_2 6 0 2) + 1) → Q (some (aI 1)) V_3)))) ∧ (¬ (V 6 0 2) < 96 → Q (some (aI 0)) V))
set_option maxRecDepth 10000 in
theorem okX1_addStep_0 {d : Nat} {P : Option AV → Mem → Prop}    (x1 : Int32)  (V : Mem)  (h : wpX1_addStep_0 (Cl UX d)   x1 V P) : Gq (Kp (d + 1) mX1_addStep UX P) UX cX1_addStep 2 RX1 0 [(0, aR 6 0), (1, aI x1)] [] V := by
  unfold wpX1_addStep_0 at h
  refine go_aload_n (q := 0) dX1_addStep_0 rfl rfl ?_
  refine go_geti fg_X1_22 dX1_addStep_1 (mX (n := 1) (by decide) rfl (by omega)) ?_
  refine go_bipush (v := 96) dX1_addStep_4 (by decide) ?_
  refine go_icmp_lt (tgt := 11) dX1_addStep_6 (by decide) (fun c_4 => ?_) (fun c_4 => ?_)
  · have h := h.1 c_4
    refine go_aload_n (q := 0) dX1_addStep_11 rfl rfl ?_
    refine go_getr fg_X1_9 dX1_addStep_12 (mX (n := 1) (by decide) rfl (by omega)) ?_
    refine go_aload_n (q := 0) dX1_addStep_15 rfl rfl ?_
    refine go_geti fg_X1_22 dX1_addStep_16 (mX (n := 1) (by decide) rfl (by omega)) ?_
    refine go_iload_n (q := 1) dX1_addStep_19 rfl rfl ?_
    obtain ⟨j_1, e_j_1, l_j_1, h⟩ := h
    refine go_iast (r := 18) (n := 96) (j := j_1) rfl (by decide) dX1_addStep_20 (mX (n := 1) (by decide) rfl (by omega)) e_j_1 l_j_1 ?_
    refine nmV (fun V_2 e_V_2 => ?_)
    have h := h V_2 e_V_2
    refine go_aload_n (q := 0) dX1_addStep_21 rfl rfl ?_
    refine go_dup dX1_addStep_22 rfl ?_
    refine go_geti fg_X1_22 dX1_addStep_23 (mX (n := 1) (by decide) rfl (by omega)) ?_
    refine go_iconst (v := 1) dX1_addStep_26 (by decide) ?_
    refine go_iadd dX1_addStep_27 ?_
    refine go_puti fp_X1_22 dX1_addStep_28 (mX (n := 1) (by decide) rfl (by omega)) ?_
    refine nmV (fun V_3 e_V_3 => ?_)
    have h := h V_3 e_V_3
    refine go_iconst (v := 1) dX1_addStep_31 (by decide) ?_
    exact go_bret rfl dX1_addStep_32 (by decide) h
  · have h := h.2 c_4
    refine go_iconst (v := 0) dX1_addStep_9 (by decide) ?_
    exact go_bret rfl dX1_addStep_10 (by decide) h
theorem clX1_addStep {d : Nat} {P : Option AV → Mem → Prop}    (x1 : Int32) (V : Mem)  (h : wpX1_addStep_0 (Cl UX d)   x1 V P) : Cl UX (d + 1) mX1_addStep [aR 6 0, aI x1] V P :=
  cl_of [(0, aR 6 0), (1, aI x1)] (by decide) (fun _ => Nat.le_of_ble_eq_true rfl) (fun _ => rfl) (okX1_addStep_0   x1 V  h)
theorem dX1_isSign_0 : decode cX1_isSign 0 = .ok (.aload_n 0, 1) := by decide +kernel
theorem dX1_isSign_1 : decode cX1_isSign 1 = .ok (.getfield 31, 3) := by decide +kernel
theorem dX1_isSign_4 : decode cX1_isSign 4 = .ok (.iconst 3, 1) := by decide +kernel
theorem dX1_isSign_5 : decode cX1_isSign 5 = .ok (.if_icmp .ne 20, 3) := by decide +kernel
theorem dX1_isSign_8 : decode cX1_isSign 8 = .ok (.aload_n 0, 1) := by decide +kernel
theorem dX1_isSign_9 : decode cX1_isSign 9 = .ok (.getfield 15, 3) := by decide +kernel
theorem dX1_isSign_12 : decode cX1_isSign 12 = .ok (.aload_n 0, 1) := by decide +kernel
theorem dX1_isSign_13 : decode cX1_isSign 13 = .ok (.getfield 64, 3) := by decide +kernel
theorem dX1_isSign_16 : decode cX1_isSign 16 = .ok (.iaload, 1) := by decide +kernel
theorem dX1_isSign_17 : decode cX1_isSign 17 = .ok (.iload_n 1, 1) := by decide +kernel
theorem dX1_isSign_18 : decode cX1_isSign 18 = .ok (.if_icmp .ne 7, 3) := by decide +kernel
theorem dX1_isSign_21 : decode cX1_isSign 21 = .ok (.iconst 1, 1) := by decide +kernel
theorem dX1_isSign_22 : decode cX1_isSign 22 = .ok (.goto 4, 3) := by decide +kernel
theorem dX1_isSign_25 : decode cX1_isSign 25 = .ok (.iconst 0, 1) := by decide +kernel
theorem dX1_isSign_26 : decode cX1_isSign 26 = .ok (.ireturn, 1) := by decide +kernel
def wpX1_isSign_0 (C : CT)   (x1 : Int32) (V : Mem) (Q : Option AV → Mem → Prop) : Prop :=
  ((¬ (V 6 0 7) = 3 → Q (some (aI 0)) V) ∧ ((V 6 0 7) = 3 → (∃ j_1 : Nat, (V 6 0 5) = nI j_1 ∧ j_1 < 96 ∧ ((¬ (V 17 0 j_1) = x1 → Q (some (aI 0)) V) ∧ ((V 17 0 j_1) = x1 → Q (some (aI 1)) V)))))
set_option maxRecDepth 10000 in
theorem okX1_isSign_0 {d : Nat} {P : Option AV → Mem → Prop}    (x1 : Int32)  (V : Mem)  (h : wpX1_isSign_0 (Cl UX d)   x1 V P) : Gq (Kp (d + 1) mX1_isSign UX P) UX cX1_isSign 2 RX1 0 [(0, aR 6 0), (1, aI x1)] [] V := by
  unfold wpX1_isSign_0 at h
  refine go_aload_n (q := 0) dX1_isSign_0 rfl rfl ?_
  refine go_geti fg_X1_31 dX1_isSign_1 (mX (n := 1) (by decide) rfl (by omega)) ?_
  refine go_iconst (v := 3) dX1_isSign_4 (by decide) ?_
  refine go_icmp_ne (tgt := 25) dX1_isSign_5 (by decide) (fun c_3 => ?_) (fun c_3 => ?_)
  · have h := h.1 c_3
    refine go_iconst (v := 0) dX1_isSign_25 (by decide) ?_
    exact go_bret rfl dX1_isSign_26 (by decide) h
  · have h := h.2 c_3
    refine go_aload_n (q := 0) dX1_isSign_8 rfl rfl ?_
    refine go_getr fg_X1_15 dX1_isSign_9 (mX (n := 1) (by decide) rfl (by omega)) ?_
    refine go_aload_n (q := 0) dX1_isSign_12 rfl rfl ?_
    refine go_geti fg_X1_64 dX1_isSign_13 (mX (n := 1) (by decide) rfl (by omega)) ?_
    obtain ⟨j_1, e_j_1, l_j_1, h⟩ := h
    refine go_iald (r := 17) (n := 96) (j := j_1) rfl (by decide) dX1_isSign_16 (mX (n := 1) (by decide) rfl (by omega)) e_j_1 l_j_1 ?_
    refine go_iload_n (q := 1) dX1_isSign_17 rfl rfl ?_
    refine go_icmp_ne (tgt := 25) dX1_isSign_18 (by decide) (fun c_2 => ?_) (fun c_2 => ?_)
    · have h := h.1 c_2
      refine go_iconst (v := 0) dX1_isSign_25 (by decide) ?_
      exact go_bret rfl dX1_isSign_26 (by decide) h
    · have h := h.2 c_2
      refine go_iconst (v := 1) dX1_isSign_21 (by decide) ?_
      refine go_goto (tgt := 26) dX1_isSign_22 (by decide) ?_
      exact go_bret rfl dX1_isSign_26 (by decide) h
theorem clX1_isSign {d : Nat} {P : Option AV → Mem → Prop}    (x1 : Int32) (V : Mem)  (h : wpX1_isSign_0 (Cl UX d)   x1 V P) : Cl UX (d + 1) mX1_isSign [aR 6 0, aI x1] V P :=
  cl_of [(0, aR 6 0), (1, aI x1)] (by decide) (fun _ => Nat.le_of_ble_eq_true rfl) (fun _ => rfl) (okX1_isSign_0   x1 V  h)
theorem dX1_isSignOf_0 : decode cX1_isSignOf 0 = .ok (.iload_n 1, 1) := by decide +kernel
theorem dX1_isSignOf_1 : decode cX1_isSignOf 1 = .ok (.tableswitch 102 0 3 #[31, 38, 45, 78], 31) := by decide +kernel
theorem dX1_isSignOf_32 : decode cX1_isSignOf 32 = .ok (.aload_n 0, 1) := by decide +kernel
theorem dX1_isSignOf_33 : decode cX1_isSignOf 33 = .ok (.bipush 124, 2) := by decide +kernel
theorem dX1_isSignOf_35 : decode cX1_isSignOf 35 = .ok (.invokevirtual 82, 3) := by decide +kernel
theorem dX1_isSignOf_38 : decode cX1_isSignOf 38 = .ok (.ireturn, 1) := by decide +kernel
theorem dX1_isSignOf_39 : decode cX1_isSignOf 39 = .ok (.aload_n 0, 1) := by decide +kernel
theorem dX1_isSignOf_40 : decode cX1_isSignOf 40 = .ok (.bipush 38, 2) := by decide +kernel
theorem dX1_isSignOf_42 : decode cX1_isSignOf 42 = .ok (.invokevirtual 82, 3) := by decide +kernel
theorem dX1_isSignOf_45 : decode cX1_isSignOf 45 = .ok (.ireturn, 1) := by decide +kernel
theorem dX1_isSignOf_46 : decode cX1_isSignOf 46 = .ok (.aload_n 0, 1) := by decide +kernel
theorem dX1_isSignOf_47 : decode cX1_isSignOf 47 = .ok (.bipush 60, 2) := by decide +kernel
theorem dX1_isSignOf_49 : decode cX1_isSignOf 49 = .ok (.invokevirtual 82, 3) := by decide +kernel
theorem dX1_isSignOf_52 : decode cX1_isSignOf 52 = .ok (.ifCond .ne 21, 3) := by decide +kernel
theorem dX1_isSignOf_55 : decode cX1_isSignOf 55 = .ok (.aload_n 0, 1) := by decide +kernel
theorem dX1_isSignOf_56 : decode cX1_isSignOf 56 = .ok (.bipush 61, 2) := by decide +kernel
theorem dX1_isSignOf_58 : decode cX1_isSignOf 58 = .ok (.invokevirtual 82, 3) := by decide +kernel
theorem dX1_isSignOf_61 : decode cX1_isSignOf 61 = .ok (.ifCond .ne 12, 3) := by decide +kernel
theorem dX1_isSignOf_64 : decode cX1_isSignOf 64 = .ok (.aload_n 0, 1) := by decide +kernel
theorem dX1_isSignOf_65 : decode cX1_isSignOf 65 = .ok (.bipush 62, 2) := by decide +kernel
theorem dX1_isSignOf_67 : decode cX1_isSignOf 67 = .ok (.invokevirtual 82, 3) := by decide +kernel
theorem dX1_isSignOf_70 : decode cX1_isSignOf 70 = .ok (.ifCond .eq 7, 3) := by decide +kernel
theorem dX1_isSignOf_73 : decode cX1_isSignOf 73 = .ok (.iconst 1, 1) := by decide +kernel
theorem dX1_isSignOf_74 : decode cX1_isSignOf 74 = .ok (.goto 4, 3) := by decide +kernel
theorem dX1_isSignOf_77 : decode cX1_isSignOf 77 = .ok (.iconst 0, 1) := by decide +kernel
theorem dX1_isSignOf_78 : decode cX1_isSignOf 78 = .ok (.ireturn, 1) := by decide +kernel
theorem dX1_isSignOf_79 : decode cX1_isSignOf 79 = .ok (.aload_n 0, 1) := by decide +kernel
theorem dX1_isSignOf_80 : decode cX1_isSignOf 80 = .ok (.bipush 43, 2) := by decide +kernel
theorem dX1_isSignOf_82 : decode cX1_isSignOf 82 = .ok (.invokevirtual 82, 3) := by decide +kernel
theorem dX1_isSignOf_85 : decode cX1_isSignOf 85 = .ok (.ifCond .ne 12, 3) := by decide +kernel
theorem dX1_isSignOf_88 : decode cX1_isSignOf 88 = .ok (.aload_n 0, 1) := by decide +kernel
theorem dX1_isSignOf_89 : decode cX1_isSignOf 89 = .ok (.bipush 45, 2) := by decide +kernel
theorem dX1_isSignOf_91 : decode cX1_isSignOf 91 = .ok (.invokevirtual 82, 3) := by decide +kernel
theorem dX1_isSignOf_94 : decode cX1_isSignOf 94 = .ok (.ifCond .eq 7, 3) := by decide +kernel
theorem dX1_isSignOf_97 : decode cX1_isSignOf 97 = .ok (.iconst 1, 1) := by decide +kernel
theorem dX1_isSignOf_98 : decode cX1_isSignOf 98 = .ok (.goto 4, 3) := by decide +kernel
theorem dX1_isSignOf_101 : decode cX1_isSignOf 101 = .ok (.iconst 0, 1) := by decide +kernel
theorem dX1_isSignOf_102 : decode cX1_isSignOf 102 = .ok (.ireturn, 1) := by decide +kernel
theorem dX1_isSignOf_103 : decode cX1_isSignOf 103 = .ok (.aload_n 0, 1) := by decide +kernel
theorem dX1_isSignOf_104 : decode cX1_isSignOf 104 = .ok (.bipush 42, 2) := by decide +kernel
theorem dX1_isSignOf_106 : decode cX1_isSignOf 106 = .ok (.invokevirtual 82, 3) := by decide +kernel
theorem dX1_isSignOf_109 : decode cX1_isSignOf 109 = .ok (.ifCond .ne 12, 3) := by decide +kernel
theorem dX1_isSignOf_112 : decode cX1_isSignOf 112 = .ok (.aload_n 0, 1) := by decide +kernel
theorem dX1_isSignOf_113 : decode cX1_isSignOf 113 = .ok (.bipush 47, 2) := by decide +kernel
theorem dX1_isSignOf_115 : decode cX1_isSignOf 115 = .ok (.invokevirtual 82, 3) := by decide +kernel
theorem dX1_isSignOf_118 : decode cX1_isSignOf 118 = .ok (.ifCond .eq 7, 3) := by decide +kernel
theorem dX1_isSignOf_121 : decode cX1_isSignOf 121 = .ok (.iconst 1, 1) := by decide +kernel
theorem dX1_isSignOf_122 : decode cX1_isSignOf 122 = .ok (.goto 4, 3) := by decide +kernel
theorem dX1_isSignOf_125 : decode cX1_isSignOf 125 = .ok (.iconst 0, 1) := by decide +kernel
theorem dX1_isSignOf_126 : decode cX1_isSignOf 126 = .ok (.ireturn, 1) := by decide +kernel
def wpX1_isSignOf_0 (C : CT)   (x1 : Int32) (V : Mem) (Q : Option AV → Mem → Prop) : Prop :=
  ((x1 = 0 → (cI C mX1_isSign [aR 6 0, aI 124] V (fun x_2 V_1 => ((x_2 = 0 ∨ x_2 = 1) ∧ Q (some (aI x_2)) V_1)))) ∧ (x1 = 1 → (cI C mX1_isSign [aR 6 0, aI 38] V (fun x_4 V_3 => ((x_4 = 0 ∨ x_4 = 1) ∧ Q (some (aI x_4)) V_3)))) ∧ (x1 = 2 → (cI C mX1_isSign [aR 6 0, aI 60] V (fun x_6 V_5 => ((¬ x_6 = 0 → Q (some (aI 1)) V_5) ∧ (x_6 = 0 → (cI C mX1_isSign [aR 6 0, aI 61] V_5 (fun x_8 V_7 => ((¬ x_8 = 0 → Q (some (aI 1)) V_7) ∧ (x_8 = 0 → (cI C mX1_isSign [aR 6 0, aI 62] V_7 (fun x_10 V_9 => ((x_10 = 0 → Q (some (aI 0)) V_9) ∧ (¬ x_10 = 0 → Q (some (aI 1)) V_9))))))))))))) ∧ (x1 = 3 → (cI C mX1_isSign [aR 6 0, aI 43] V (fun x_15 V_14 => ((¬ x_15 = 0 → Q (some (aI 1)) V_14) ∧ (x_15 = 0 → (cI C mX1_isSign [aR 6 0, aI 45] V_14 (fun x_17 V_16 => ((x_17 = 0 → Q (some (aI 0)) V_16) ∧ (¬ x_17 = 0 → Q (some (aI 1)) V_16))))))))) ∧ (¬ x1 = 0 ∧ ¬ x1 = 1 ∧ ¬ x1 = 2 ∧ ¬ x1 = 3 → (cI C mX1_isSign [aR 6 0, aI 42] V (fun x_21 V_20 => ((¬ x_21 = 0 → Q (some (aI 1)) V_20) ∧ (x_21 = 0 → (cI C mX1_isSign [aR 6 0, aI 47] V_20 (fun x_23 V_22 => ((x_23 = 0 → Q (some (aI 0)) V_22) ∧ (¬ x_23 = 0 → Q (some (aI 1)) V_22))))))))))
set_option maxRecDepth 10000 in
theorem okX1_isSignOf_0 {d : Nat} {P : Option AV → Mem → Prop}    (x1 : Int32)  (V : Mem)  (h : wpX1_isSignOf_0 (Cl UX d)   x1 V P) : Gq (Kp (d + 1) mX1_isSignOf UX P) UX cX1_isSignOf 2 RX1 0 [(0, aR 6 0), (1, aI x1)] [] V := by
  unfold wpX1_isSignOf_0 at h
  refine go_iload_n (q := 1) dX1_isSignOf_0 rfl rfl ?_
  by_cases c1_0 : x1 = 0
  · have h := h.1 c1_0
    refine go_tabC (z := 0) (off := 31) (tgt := 32) c1_0 dX1_isSignOf_1 (by decide) (by decide) rfl (by decide) ?_
    refine go_aload_n (q := 0) dX1_isSignOf_32 rfl rfl ?_
    refine go_bipush (v := 124) dX1_isSignOf_33 (by decide) ?_
    refine go_cVI (As := [aI 124]) (st := []) (r := 6) (i := 0) mv_X1_isSign dX1_isSignOf_35 ml_X1_82 (hr_Kp (Nat.le_refl d)) rfl rfl (mX (n := 1) (by decide) rfl (by omega)) rfl rfl (Nat.le_of_ble_eq_true rfl) h (fun x_2 V_1 h => ?_)
    exact go_bret rfl dX1_isSignOf_38 h.1 h.2
  by_cases c1_1 : x1 = 1
  · have h := h.2.1 c1_1
    refine go_tabC (z := 1) (off := 38) (tgt := 39) c1_1 dX1_isSignOf_1 (by decide) (by decide) rfl (by decide) ?_
    refine go_aload_n (q := 0) dX1_isSignOf_39 rfl rfl ?_
    refine go_bipush (v := 38) dX1_isSignOf_40 (by decide) ?_
    refine go_cVI (As := [aI 38]) (st := []) (r := 6) (i := 0) mv_X1_isSign dX1_isSignOf_42 ml_X1_82 (hr_Kp (Nat.le_refl d)) rfl rfl (mX (n := 1) (by decide) rfl (by omega)) rfl rfl (Nat.le_of_ble_eq_true rfl) h (fun x_4 V_3 h => ?_)
    exact go_bret rfl dX1_isSignOf_45 h.1 h.2
  by_cases c1_2 : x1 = 2
  · have h := h.2.2.1 c1_2
    refine go_tabC (z := 2) (off := 45) (tgt := 46) c1_2 dX1_isSignOf_1 (by decide) (by decide) rfl (by decide) ?_
    refine go_aload_n (q := 0) dX1_isSignOf_46 rfl rfl ?_
    refine go_bipush (v := 60) dX1_isSignOf_47 (by decide) ?_
    refine go_cVI (As := [aI 60]) (st := []) (r := 6) (i := 0) mv_X1_isSign dX1_isSignOf_49 ml_X1_82 (hr_Kp (Nat.le_refl d)) rfl rfl (mX (n := 1) (by decide) rfl (by omega)) rfl rfl (Nat.le_of_ble_eq_true rfl) h (fun x_6 V_5 h => ?_)
    refine go_if_ne (tgt := 73) dX1_isSignOf_52 (by decide) (fun c_13 => ?_) (fun c_13 => ?_)
    · have h := h.1 c_13
      refine go_iconst (v := 1) dX1_isSignOf_73 (by decide) ?_
      refine go_goto (tgt := 78) dX1_isSignOf_74 (by decide) ?_
      exact go_bret rfl dX1_isSignOf_78 (by decide) h
    · have h := h.2 c_13
      refine go_aload_n (q := 0) dX1_isSignOf_55 rfl rfl ?_
      refine go_bipush (v := 61) dX1_isSignOf_56 (by decide) ?_
      refine go_cVI (As := [aI 61]) (st := []) (r := 6) (i := 0) mv_X1_isSign dX1_isSignOf_58 ml_X1_82 (hr_Kp (Nat.le_refl d)) rfl rfl (mX (n := 1) (by decide) rfl (by omega)) rfl rfl (Nat.le_of_ble_eq_true rfl) h (fun x_8 V_7 h => ?_)
      refine go_if_ne (tgt := 73) dX1_isSignOf_61 (by decide) (fun c_12 => ?_) (fun c_12 => ?_)
      · have h := h.1 c_12
        refine go_iconst (v := 1) dX1_isSignOf_73 (by decide) ?_
        refine go_goto (tgt := 78) dX1_isSignOf_74 (by decide) ?_
        exact go_bret rfl dX1_isSignOf_78 (by decide) h
      · have h := h.2 c_12
        refine go_aload_n (q := 0) dX1_isSignOf_64 rfl rfl ?_
        refine go_bipush (v := 62) dX1_isSignOf_65 (by decide) ?_
        refine go_cVI (As := [aI 62]) (st := []) (r := 6) (i := 0) mv_X1_isSign dX1_isSignOf_67 ml_X1_82 (hr_Kp (Nat.le_refl d)) rfl rfl (mX (n := 1) (by decide) rfl (by omega)) rfl rfl (Nat.le_of_ble_eq_true rfl) h (fun x_10 V_9 h => ?_)
        refine go_if_eq (tgt := 77) dX1_isSignOf_70 (by decide) (fun c_11 => ?_) (fun c_11 => ?_)
        · have h := h.1 c_11
          refine go_iconst (v := 0) dX1_isSignOf_77 (by decide) ?_
          exact go_bret rfl dX1_isSignOf_78 (by decide) h
        · have h := h.2 c_11
          refine go_iconst (v := 1) dX1_isSignOf_73 (by decide) ?_
          refine go_goto (tgt := 78) dX1_isSignOf_74 (by decide) ?_
          exact go_bret rfl dX1_isSignOf_78 (by decide) h
  by_cases c1_3 : x1 = 3
  · have h := h.2.2.2.1 c1_3
    refine go_tabC (z := 3) (off := 78) (tgt := 79) c1_3 dX1_isSignOf_1 (by decide) (by decide) rfl (by decide) ?_
    refine go_aload_n (q := 0) dX1_isSignOf_79 rfl rfl ?_
    refine go_bipush (v := 43) dX1_isSignOf_80 (by decide) ?_
    refine go_cVI (As := [aI 43]) (st := []) (r := 6) (i := 0) mv_X1_isSign dX1_isSignOf_82 ml_X1_82 (hr_Kp (Nat.le_refl d)) rfl rfl (mX (n := 1) (by decide) rfl (by omega)) rfl rfl (Nat.le_of_ble_eq_true rfl) h (fun x_15 V_14 h => ?_)
    refine go_if_ne (tgt := 97) dX1_isSignOf_85 (by decide) (fun c_19 => ?_) (fun c_19 => ?_)
    · have h := h.1 c_19
      refine go_iconst (v := 1) dX1_isSignOf_97 (by decide) ?_
      refine go_goto (tgt := 102) dX1_isSignOf_98 (by decide) ?_
      exact go_bret rfl dX1_isSignOf_102 (by decide) h
    · have h := h.2 c_19
      refine go_aload_n (q := 0) dX1_isSignOf_88 rfl rfl ?_
      refine go_bipush (v := 45) dX1_isSignOf_89 (by decide) ?_
      refine go_cVI (As := [aI 45]) (st := []) (r := 6) (i := 0) mv_X1_isSign dX1_isSignOf_91 ml_X1_82 (hr_Kp (Nat.le_refl d)) rfl rfl (mX (n := 1) (by decide) rfl (by omega)) rfl rfl (Nat.le_of_ble_eq_true rfl) h (fun x_17 V_16 h => ?_)
      refine go_if_eq (tgt := 101) dX1_isSignOf_94 (by decide) (fun c_18 => ?_) (fun c_18 => ?_)
      · have h := h.1 c_18
        refine go_iconst (v := 0) dX1_isSignOf_101 (by decide) ?_
        exact go_bret rfl dX1_isSignOf_102 (by decide) h
      · have h := h.2 c_18
        refine go_iconst (v := 1) dX1_isSignOf_97 (by decide) ?_
        refine go_goto (tgt := 102) dX1_isSignOf_98 (by decide) ?_
        exact go_bret rfl dX1_isSignOf_102 (by decide) h
  have h := h.2.2.2.2 ⟨c1_0, c1_1, c1_2, c1_3⟩
  have q_c1_0 := lv_neT c1_0 (show (0 : Int32).toInt = 0 from rfl)
  have q_c1_1 := lv_neT c1_1 (show (1 : Int32).toInt = 1 from rfl)
  have q_c1_2 := lv_neT c1_2 (show (2 : Int32).toInt = 2 from rfl)
  have q_c1_3 := lv_neT c1_3 (show (3 : Int32).toInt = 3 from rfl)
  refine go_tabOut (tgt := 103) dX1_isSignOf_1 (by omega) (by decide) ?_
  refine go_aload_n (q := 0) dX1_isSignOf_103 rfl rfl ?_
  refine go_bipush (v := 42) dX1_isSignOf_104 (by decide) ?_
  refine go_cVI (As := [aI 42]) (st := []) (r := 6) (i := 0) mv_X1_isSign dX1_isSignOf_106 ml_X1_82 (hr_Kp (Nat.le_refl d)) rfl rfl (mX (n := 1) (by decide) rfl (by omega)) rfl rfl (Nat.le_of_ble_eq_true rfl) h (fun x_21 V_20 h => ?_)
  refine go_if_ne (tgt := 121) dX1_isSignOf_109 (by decide) (fun c_25 => ?_) (fun c_25 => ?_)
  · have h := h.1 c_25
    refine go_iconst (v := 1) dX1_isSignOf_121 (by decide) ?_
    refine go_goto (tgt := 126) dX1_isSignOf_122 (by decide) ?_
    exact go_bret rfl dX1_isSignOf_126 (by decide) h
  · have h := h.2 c_25
    refine go_aload_n (q := 0) dX1_isSignOf_112 rfl rfl ?_
    refine go_bipush (v := 47) dX1_isSignOf_113 (by decide) ?_
    refine go_cVI (As := [aI 47]) (st := []) (r := 6) (i := 0) mv_X1_isSign dX1_isSignOf_115 ml_X1_82 (hr_Kp (Nat.le_refl d)) rfl rfl (mX (n := 1) (by decide) rfl (by omega)) rfl rfl (Nat.le_of_ble_eq_true rfl) h (fun x_23 V_22 h => ?_)
    refine go_if_eq (tgt := 125) dX1_isSignOf_118 (by decide) (fun c_24 => ?_) (fun c_24 => ?_)
    · have h := h.1 c_24
      refine go_iconst (v := 0) dX1_isSignOf_125 (by decide) ?_
      exact go_bret rfl dX1_isSignOf_126 (by decide) h
    · have h := h.2 c_24
      refine go_iconst (v := 1) dX1_isSignOf_121 (by decide) ?_
      refine go_goto (tgt := 126) dX1_isSignOf_122 (by decide) ?_
      exact go_bret rfl dX1_isSignOf_126 (by decide) h
theorem clX1_isSignOf {d : Nat} {P : Option AV → Mem → Prop}    (x1 : Int32) (V : Mem)  (h : wpX1_isSignOf_0 (Cl UX d)   x1 V P) : Cl UX (d + 1) mX1_isSignOf [aR 6 0, aI x1] V P :=
  cl_of [(0, aR 6 0), (1, aI x1)] (by decide) (fun _ => Nat.le_of_ble_eq_true rfl) (fun _ => rfl) (okX1_isSignOf_0   x1 V  h)
theorem dX1_numberRead_0 : decode cX1_numberRead 0 = .ok (.iconst 0, 1) := by decide +kernel
theorem dX1_numberRead_1 : decode cX1_numberRead 1 = .ok (.istore_n 1, 1) := by decide +kernel
theorem dX1_numberRead_2 : decode cX1_numberRead 2 = .ok (.aload_n 0, 1) := by decide +kernel
theorem dX1_numberRead_3 : decode cX1_numberRead 3 = .ok (.getfield 64, 3) := by decide +kernel
theorem dX1_numberRead_6 : decode cX1_numberRead 6 = .ok (.istore_n 2, 1) := by decide +kernel
theorem dX1_numberRead_7 : decode cX1_numberRead 7 = .ok (.iload_n 2, 1) := by decide +kernel
theorem dX1_numberRead_8 : decode cX1_numberRead 8 = .ok (.aload_n 0, 1) := by decide +kernel
theorem dX1_numberRead_9 : decode cX1_numberRead 9 = .ok (.getfield 28, 3) := by decide +kernel
theorem dX1_numberRead_12 : decode cX1_numberRead 12 = .ok (.if_icmp .ge 24, 3) := by decide +kernel
theorem dX1_numberRead_15 : decode cX1_numberRead 15 = .ok (.bipush 10, 2) := by decide +kernel
theorem dX1_numberRead_17 : decode cX1_numberRead 17 = .ok (.iload_n 1, 1) := by decide +kernel
theorem dX1_numberRead_18 : decode cX1_numberRead 18 = .ok (.imul, 1) := by decide +kernel
theorem dX1_numberRead_19 : decode cX1_numberRead 19 = .ok (.aload_n 0, 1) := by decide +kernel
theorem dX1_numberRead_20 : decode cX1_numberRead 20 = .ok (.getfield 15, 3) := by decide +kernel
theorem dX1_numberRead_23 : decode cX1_numberRead 23 = .ok (.iload_n 2, 1) := by decide +kernel
theorem dX1_numberRead_24 : decode cX1_numberRead 24 = .ok (.iaload, 1) := by decide +kernel
theorem dX1_numberRead_25 : decode cX1_numberRead 25 = .ok (.iadd, 1) := by decide +kernel
theorem dX1_numberRead_26 : decode cX1_numberRead 26 = .ok (.bipush 48, 2) := by decide +kernel
theorem dX1_numberRead_28 : decode cX1_numberRead 28 = .ok (.isub, 1) := by decide +kernel
theorem dX1_numberRead_29 : decode cX1_numberRead 29 = .ok (.istore_n 1, 1) := by decide +kernel
theorem dX1_numberRead_30 : decode cX1_numberRead 30 = .ok (.iinc 2 1, 3) := by decide +kernel
theorem dX1_numberRead_33 : decode cX1_numberRead 33 = .ok (.goto (-26), 3) := by decide +kernel
theorem dX1_numberRead_36 : decode cX1_numberRead 36 = .ok (.iload_n 1, 1) := by decide +kernel
theorem dX1_numberRead_37 : decode cX1_numberRead 37 = .ok (.ireturn, 1) := by decide +kernel
def wpX1_numberRead_7 (C : CT) (I7 : Int32 → Int32 → Mem → Prop)  (x1 : Int32) (x2 : Int32) (V : Mem) (Q : Option AV → Mem → Prop) : Prop :=
  (((V 6 0 6) ≤ x2 → Q (some (aI x1)) V) ∧ (¬ (V 6 0 6) ≤ x2 → (∃ j_1 : Nat, x2 = nI j_1 ∧ j_1 < 96 ∧ (∀ z_2 : Int32, z_2 = (((10 * x1) + (V 17 0 j_1)) - 48) → I7 z_2 (x2 + 1) V))))
set_option maxRecDepth 10000 in
theorem okX1_numberRead_7 {d : Nat} {P : Option AV → Mem → Prop} {I7 : Int32 → Int32 → Mem → Prop}   (x1 : Int32) (x2 : Int32)  (V : Mem) (hk7 : ∀ (x1 : Int32) (x2 : Int32), ∀ (V : Mem), I7 x1 x2 V → Gq (Kp (d + 1) mX1_numberRead UX P) UX cX1_numberRead 3 RX1 7 [(0, aR 6 0), (1, aI x1), (2, aI x2)] [] V) (h : wpX1_numberRead_7 (Cl UX d) I7  x1 x2 V P) : Gq (Kp (d + 1) mX1_numberRead UX P) UX cX1_numberRead 3 RX1 7 [(0, aR 6 0), (1, aI x1), (2, aI x2)] [] V := by
  unfold wpX1_numberRead_7 at h
  refine go_iload_n (q := 2) dX1_numberRead_7 rfl rfl ?_
  refine go_aload_n (q := 0) dX1_numberRead_8 rfl rfl ?_
  refine go_geti fg_X1_28 dX1_numberRead_9 (mX (n := 1) (by decide) rfl (by omega)) ?_
  refine go_icmp_ge (tgt := 36) dX1_numberRead_12 (by decide) (fun c_3 => ?_) (fun c_3 => ?_)
  · have h := h.1 c_3
    refine go_iload_n (q := 1) dX1_numberRead_36 rfl rfl ?_
    exact go_iret rfl dX1_numberRead_37 h
  · have h := h.2 c_3
    refine go_bipush (v := 10) dX1_numberRead_15 (by decide) ?_
    refine go_iload_n (q := 1) dX1_numberRead_17 rfl rfl ?_
    refine go_imul dX1_numberRead_18 ?_
    refine go_aload_n (q := 0) dX1_numberRead_19 rfl rfl ?_
    refine go_getr fg_X1_15 dX1_numberRead_20 (mX (n := 1) (by decide) rfl (by omega)) ?_
    refine go_iload_n (q := 2) dX1_numberRead_23 rfl rfl ?_
    obtain ⟨j_1, e_j_1, l_j_1, h⟩ := h
    refine go_iald (r := 17) (n := 96) (j := j_1) rfl (by decide) dX1_numberRead_24 (mX (n := 1) (by decide) rfl (by omega)) e_j_1 l_j_1 ?_
    refine go_iadd dX1_numberRead_25 ?_
    refine go_bipush (v := 48) dX1_numberRead_26 (by decide) ?_
    refine go_isub dX1_numberRead_28 ?_
    refine nmI (fun z_2 e_z_2 => ?_)
    have h := h z_2 e_z_2
    refine go_istore_n (al1 := [(1, aI z_2), (0, aR 6 0), (2, aI x2)]) dX1_numberRead_29 rfl (by decide) rfl ?_
    refine go_iinc (q := 2) (y := 1) (al1 := [(2, aI (x2 + 1)), (1, aI z_2), (0, aR 6 0)]) dX1_numberRead_30 rfl (by decide) (by decide) rfl ?_
    refine go_goto (tgt := 7) dX1_numberRead_33 (by decide) ?_
    refine go_sub (al1 := [(0, aR 6 0), (1, aI z_2), (2, aI (x2 + 1))]) [2, 1, 0] rfl ?_
    exact hk7 z_2 (x2 + 1)  V h
def wpX1_numberRead_0 (C : CT) (I7 : Int32 → Int32 → Mem → Prop)   (V : Mem) (Q : Option AV → Mem → Prop) : Prop :=
  (∀ z_1 : Int32, z_1 = (V 6 0 5) → I7 0 z_1 V)
set_option maxRecDepth 10000 in
theorem okX1_numberRead_0 {d : Nat} {P : Option AV → Mem → Prop} {I7 : Int32 → Int32 → Mem → Prop}     (V : Mem) (hk7 : ∀ (x1 : Int32) (x2 : Int32), ∀ (V : Mem), I7 x1 x2 V → Gq (Kp (d + 1) mX1_numberRead UX P) UX cX1_numberRead 3 RX1 7 [(0, aR 6 0), (1, aI x1), (2, aI x2)] [] V) (h : wpX1_numberRead_0 (Cl UX d) I7   V P) : Gq (Kp (d + 1) mX1_numberRead UX P) UX cX1_numberRead 3 RX1 0 [(0, aR 6 0)] [] V := by
  unfold wpX1_numberRead_0 at h
  refine go_iconst (v := 0) dX1_numberRead_0 (by decide) ?_
  refine go_istore_n (al1 := [(1, aI 0), (0, aR 6 0)]) dX1_numberRead_1 rfl (by decide) rfl ?_
  refine go_aload_n (q := 1) dX1_numberRead_2 rfl rfl ?_
  refine go_geti fg_X1_64 dX1_numberRead_3 (mX (n := 1) (by decide) rfl (by omega)) ?_
  refine nmI (fun z_1 e_z_1 => ?_)
  have h := h z_1 e_z_1
  refine go_istore_n (al1 := [(2, aI z_1), (1, aI 0), (0, aR 6 0)]) dX1_numberRead_6 rfl (by decide) rfl ?_
  refine go_sub (al1 := [(0, aR 6 0), (1, aI 0), (2, aI z_1)]) [2, 1, 0] rfl ?_
  exact hk7 0 z_1  V h
theorem clX1_numberRead {d : Nat} {P : Option AV → Mem → Prop} {I7 : Int32 → Int32 → Mem → Prop}    (V : Mem) (hk7 : ∀ (x1 : Int32) (x2 : Int32), ∀ (V : Mem), I7 x1 x2 V → Gq (Kp (d + 1) mX1_numberRead UX P) UX cX1_numberRead 3 RX1 7 [(0, aR 6 0), (1, aI x1), (2, aI x2)] [] V) (h : wpX1_numberRead_0 (Cl UX d) I7   V P) : Cl UX (d + 1) mX1_numberRead [aR 6 0] V P :=
  cl_of [(0, aR 6 0)] (by decide) (fun _ => Nat.le_of_ble_eq_true rfl) (fun _ => rfl) (okX1_numberRead_0    V hk7 h)
theorem dX1_goOn_0 : decode cX1_goOn 0 = .ok (.aload_n 0, 1) := by decide +kernel
theorem dX1_goOn_1 : decode cX1_goOn 1 = .ok (.getfield 31, 3) := by decide +kernel
theorem dX1_goOn_4 : decode cX1_goOn 4 = .ok (.iconst 1, 1) := by decide +kernel
theorem dX1_goOn_5 : decode cX1_goOn 5 = .ok (.if_icmp .eq 11, 3) := by decide +kernel
theorem dX1_goOn_8 : decode cX1_goOn 8 = .ok (.aload_n 0, 1) := by decide +kernel
theorem dX1_goOn_9 : decode cX1_goOn 9 = .ok (.getfield 31, 3) := by decide +kernel
theorem dX1_goOn_12 : decode cX1_goOn 12 = .ok (.iconst 2, 1) := by decide +kernel
theorem dX1_goOn_13 : decode cX1_goOn 13 = .ok (.if_icmp .ne 7, 3) := by decide +kernel
theorem dX1_goOn_16 : decode cX1_goOn 16 = .ok (.iconst 1, 1) := by decide +kernel
theorem dX1_goOn_17 : decode cX1_goOn 17 = .ok (.goto 4, 3) := by decide +kernel
theorem dX1_goOn_20 : decode cX1_goOn 20 = .ok (.iconst 0, 1) := by decide +kernel
theorem dX1_goOn_21 : decode cX1_goOn 21 = .ok (.istore_n 1, 1) := by decide +kernel
theorem dX1_goOn_22 : decode cX1_goOn 22 = .ok (.aload_n 0, 1) := by decide +kernel
theorem dX1_goOn_23 : decode cX1_goOn 23 = .ok (.getfield 28, 3) := by decide +kernel
theorem dX1_goOn_26 : decode cX1_goOn 26 = .ok (.istore_n 2, 1) := by decide +kernel
theorem dX1_goOn_27 : decode cX1_goOn 27 = .ok (.iload_n 2, 1) := by decide +kernel
theorem dX1_goOn_28 : decode cX1_goOn 28 = .ok (.aload_n 0, 1) := by decide +kernel
theorem dX1_goOn_29 : decode cX1_goOn 29 = .ok (.getfield 18, 3) := by decide +kernel
theorem dX1_goOn_32 : decode cX1_goOn 32 = .ok (.if_icmp .ge 20, 3) := by decide +kernel
theorem dX1_goOn_35 : decode cX1_goOn 35 = .ok (.aload_n 0, 1) := by decide +kernel
theorem dX1_goOn_36 : decode cX1_goOn 36 = .ok (.getfield 15, 3) := by decide +kernel
theorem dX1_goOn_39 : decode cX1_goOn 39 = .ok (.iload_n 2, 1) := by decide +kernel
theorem dX1_goOn_40 : decode cX1_goOn 40 = .ok (.iaload, 1) := by decide +kernel
theorem dX1_goOn_41 : decode cX1_goOn 41 = .ok (.bipush 32, 2) := by decide +kernel
theorem dX1_goOn_43 : decode cX1_goOn 43 = .ok (.if_icmp .ne 9, 3) := by decide +kernel
theorem dX1_goOn_46 : decode cX1_goOn 46 = .ok (.iinc 2 1, 3) := by decide +kernel
theorem dX1_goOn_49 : decode cX1_goOn 49 = .ok (.goto (-22), 3) := by decide +kernel
theorem dX1_goOn_52 : decode cX1_goOn 52 = .ok (.iload_n 2, 1) := by decide +kernel
theorem dX1_goOn_53 : decode cX1_goOn 53 = .ok (.aload_n 0, 1) := by decide +kernel
theorem dX1_goOn_54 : decode cX1_goOn 54 = .ok (.getfield 28, 3) := by decide +kernel
theorem dX1_goOn_57 : decode cX1_goOn 57 = .ok (.if_icmp .le 7, 3) := by decide +kernel
theorem dX1_goOn_60 : decode cX1_goOn 60 = .ok (.iconst 1, 1) := by decide +kernel
theorem dX1_goOn_61 : decode cX1_goOn 61 = .ok (.goto 4, 3) := by decide +kernel
theorem dX1_goOn_64 : decode cX1_goOn 64 = .ok (.iconst 0, 1) := by decide +kernel
theorem dX1_goOn_65 : decode cX1_goOn 65 = .ok (.istore_n 3, 1) := by decide +kernel
theorem dX1_goOn_66 : decode cX1_goOn 66 = .ok (.aload_n 0, 1) := by decide +kernel
theorem dX1_goOn_67 : decode cX1_goOn 67 = .ok (.iload_n 2, 1) := by decide +kernel
theorem dX1_goOn_68 : decode cX1_goOn 68 = .ok (.putfield 64, 3) := by decide +kernel
theorem dX1_goOn_71 : decode cX1_goOn 71 = .ok (.aload_n 0, 1) := by decide +kernel
theorem dX1_goOn_72 : decode cX1_goOn 72 = .ok (.iload_n 2, 1) := by decide +kernel
theorem dX1_goOn_73 : decode cX1_goOn 73 = .ok (.putfield 28, 3) := by decide +kernel
theorem dX1_goOn_76 : decode cX1_goOn 76 = .ok (.iload_n 2, 1) := by decide +kernel
theorem dX1_goOn_77 : decode cX1_goOn 77 = .ok (.aload_n 0, 1) := by decide +kernel
theorem dX1_goOn_78 : decode cX1_goOn 78 = .ok (.getfield 18, 3) := by decide +kernel
theorem dX1_goOn_81 : decode cX1_goOn 81 = .ok (.if_icmp .lt 9, 3) := by decide +kernel
theorem dX1_goOn_84 : decode cX1_goOn 84 = .ok (.aload_n 0, 1) := by decide +kernel
theorem dX1_goOn_85 : decode cX1_goOn 85 = .ok (.iconst 0, 1) := by decide +kernel
theorem dX1_goOn_86 : decode cX1_goOn 86 = .ok (.putfield 31, 3) := by decide +kernel
theorem dX1_goOn_89 : decode cX1_goOn 89 = .ok (.return_, 1) := by decide +kernel
theorem dX1_goOn_90 : decode cX1_goOn 90 = .ok (.aload_n 0, 1) := by decide +kernel
theorem dX1_goOn_91 : decode cX1_goOn 91 = .ok (.getfield 15, 3) := by decide +kernel
theorem dX1_goOn_94 : decode cX1_goOn 94 = .ok (.iload_n 2, 1) := by decide +kernel
theorem dX1_goOn_95 : decode cX1_goOn 95 = .ok (.iaload, 1) := by decide +kernel
theorem dX1_goOn_96 : decode cX1_goOn 96 = .ok (.invokestatic 112, 3) := by decide +kernel
theorem dX1_goOn_99 : decode cX1_goOn 99 = .ok (.istore 4, 2) := by decide +kernel
theorem dX1_goOn_101 : decode cX1_goOn 101 = .ok (.iinc 2 1, 3) := by decide +kernel
theorem dX1_goOn_104 : decode cX1_goOn 104 = .ok (.iload 4, 2) := by decide +kernel
theorem dX1_goOn_106 : decode cX1_goOn 106 = .ok (.iconst 3, 1) := by decide +kernel
theorem dX1_goOn_107 : decode cX1_goOn 107 = .ok (.if_icmp .eq 31, 3) := by decide +kernel
theorem dX1_goOn_110 : decode cX1_goOn 110 = .ok (.iload_n 2, 1) := by decide +kernel
theorem dX1_goOn_111 : decode cX1_goOn 111 = .ok (.aload_n 0, 1) := by decide +kernel
theorem dX1_goOn_112 : decode cX1_goOn 112 = .ok (.getfield 18, 3) := by decide +kernel
theorem dX1_goOn_115 : decode cX1_goOn 115 = .ok (.if_icmp .ge 23, 3) := by decide +kernel
theorem dX1_goOn_118 : decode cX1_goOn 118 = .ok (.aload_n 0, 1) := by decide +kernel
theorem dX1_goOn_119 : decode cX1_goOn 119 = .ok (.getfield 15, 3) := by decide +kernel
theorem dX1_goOn_122 : decode cX1_goOn 122 = .ok (.iload_n 2, 1) := by decide +kernel
theorem dX1_goOn_123 : decode cX1_goOn 123 = .ok (.iaload, 1) := by decide +kernel
theorem dX1_goOn_124 : decode cX1_goOn 124 = .ok (.invokestatic 112, 3) := by decide +kernel
theorem dX1_goOn_127 : decode cX1_goOn 127 = .ok (.iload 4, 2) := by decide +kernel
theorem dX1_goOn_129 : decode cX1_goOn 129 = .ok (.if_icmp .ne 9, 3) := by decide +kernel
theorem dX1_goOn_132 : decode cX1_goOn 132 = .ok (.iinc 2 1, 3) := by decide +kernel
theorem dX1_goOn_135 : decode cX1_goOn 135 = .ok (.goto (-31), 3) := by decide +kernel
theorem dX1_goOn_138 : decode cX1_goOn 138 = .ok (.aload_n 0, 1) := by decide +kernel
theorem dX1_goOn_139 : decode cX1_goOn 139 = .ok (.iload_n 2, 1) := by decide +kernel
theorem dX1_goOn_140 : decode cX1_goOn 140 = .ok (.putfield 28, 3) := by decide +kernel
theorem dX1_goOn_143 : decode cX1_goOn 143 = .ok (.aload_n 0, 1) := by decide +kernel
theorem dX1_goOn_144 : decode cX1_goOn 144 = .ok (.iload 4, 2) := by decide +kernel
theorem dX1_goOn_146 : decode cX1_goOn 146 = .ok (.iconst 3, 1) := by decide +kernel
theorem dX1_goOn_147 : decode cX1_goOn 147 = .ok (.if_icmp .eq 15, 3) := by decide +kernel
theorem dX1_goOn_150 : decode cX1_goOn 150 = .ok (.iload_n 1, 1) := by decide +kernel
theorem dX1_goOn_151 : decode cX1_goOn 151 = .ok (.ifCond .eq 11, 3) := by decide +kernel
theorem dX1_goOn_154 : decode cX1_goOn 154 = .ok (.iload_n 3, 1) := by decide +kernel
theorem dX1_goOn_155 : decode cX1_goOn 155 = .ok (.ifCond .ne 7, 3) := by decide +kernel
theorem dX1_goOn_158 : decode cX1_goOn 158 = .ok (.iconst 4, 1) := by decide +kernel
theorem dX1_goOn_159 : decode cX1_goOn 159 = .ok (.goto 5, 3) := by decide +kernel
theorem dX1_goOn_162 : decode cX1_goOn 162 = .ok (.iload 4, 2) := by decide +kernel
theorem dX1_goOn_164 : decode cX1_goOn 164 = .ok (.putfield 31, 3) := by decide +kernel
theorem dX1_goOn_167 : decode cX1_goOn 167 = .ok (.return_, 1) := by decide +kernel
def wpX1_goOn_138 (C : CT) (I27 : Int32 → Int32 → Mem → Prop) (I104 : Int32 → Int32 → Int32 → Int32 → Mem → Prop)  (x1 : Int32) (x2 : Int32) (x3 : Int32) (x4 : Int32) (V : Mem) (Q : Option AV → Mem → Prop) : Prop :=
  (∀ V_1 : Mem, V_1 = mu V 6 0 6 x2 → ((x4 = 3 → (∀ V_2 : Mem, V_2 = mu V_1 6 0 7 x4 → Q none V_2)) ∧ (¬ x4 = 3 → ((x1 = 0 → (∀ V_3 : Mem, V_3 = mu V_1 6 0 7 x4 → Q none V_3)) ∧ (¬ x1 = 0 → ((¬ x3 = 0 → (∀ V_4 : Mem, V_4 = mu V_1 6 0 7 x4 → Q none V_4)) ∧ (x3 = 0 → (∀ V_5 : Mem, V_5 = mu V_1 6 0 7 4 → Q none V_5))))))))
set_option maxRecDepth 10000 in
theorem okX1_goOn_138 {d : Nat} {P : Option AV → Mem → Prop} {I27 : Int32 → Int32 → Mem → Prop} {I104 : Int32 → Int32 → Int32 → Int32 → Mem → Prop}   (x1 : Int32) (x2 : Int32) (x3 : Int32) (x4 : Int32)  (V : Mem) (hk27 : ∀ (x1 : Int32) (x2 : Int32), ∀ (V : Mem), I27 x1 x2 V → Gq (Kp (d + 1) mX1_goOn UX P) UX cX1_goOn 5 RX1 27 [(0, aR 6 0), (1, aI x1), (2, aI x2)] [] V) (hk104 : ∀ (x1 : Int32) (x2 : Int32) (x3 : Int32) (x4 : Int32), ∀ (V : Mem), I104 x1 x2 x3 x4 V → Gq (Kp (d + 1) mX1_goOn UX P) UX cX1_goOn 5 RX1 104 [(0, aR 6 0), (1, aI x1), (2, aI x2), (3, aI x3), (4, aI x4)] [] V) (h : wpX1_goOn_138 (Cl UX d) I27 I104  x1 x2 x3 x4 V P) : Gq (Kp (d + 1) mX1_goOn UX P) UX cX1_goOn 5 RX1 138 [(0, aR 6 0), (1, aI x1), (2, aI x2), (3, aI x3), (4, aI x4)] [] V := by
  unfold wpX1_goOn_138 at h
  refine go_aload_n (q := 0) dX1_goOn_138 rfl rfl ?_
  refine go_iload_n (q := 2) dX1_goOn_139 rfl rfl ?_
  refine go_puti fp_X1_28 dX1_goOn_140 (mX (n := 1) (by decide) rfl (by omega)) ?_
  refine nmV (fun V_1 e_V_1 => ?_)
  have h := h V_1 e_V_1
  refine go_aload_n (q := 0) dX1_goOn_143 rfl rfl ?_
  refine go_iload (q := 4) dX1_goOn_144 rfl ?_
  refine go_iconst (v := 3) dX1_goOn_146 (by decide) ?_
  refine go_icmp_eq (tgt := 162) dX1_goOn_147 (by decide) (fun c_8 => ?_) (fun c_8 => ?_)
  · have h := h.1 c_8
    refine go_iload (q := 4) dX1_goOn_162 rfl ?_
    refine go_puti fp_X1_31 dX1_goOn_164 (mX (n := 1) (by decide) rfl (by omega)) ?_
    refine nmV (fun V_2 e_V_2 => ?_)
    have h := h V_2 e_V_2
    exact go_vret rfl dX1_goOn_167 h
  · have h := h.2 c_8
    refine go_iload_n (q := 1) dX1_goOn_150 rfl rfl ?_
    refine go_if_eq (tgt := 162) dX1_goOn_151 (by decide) (fun c_7 => ?_) (fun c_7 => ?_)
    · have h := h.1 c_7
      refine go_iload (q := 4) dX1_goOn_162 rfl ?_
      refine go_puti fp_X1_31 dX1_goOn_164 (mX (n := 1) (by decide) rfl (by omega)) ?_
      refine nmV (fun V_3 e_V_3 => ?_)
      have h := h V_3 e_V_3
      exact go_vret rfl dX1_goOn_167 h
    · have h := h.2 c_7
      refine go_iload_n (q := 3) dX1_goOn_154 rfl rfl ?_
      refine go_if_ne (tgt := 162) dX1_goOn_155 (by decide) (fun c_6 => ?_) (fun c_6 => ?_)
      · have h := h.1 c_6
        refine go_iload (q := 4) dX1_goOn_162 rfl ?_
        refine go_puti fp_X1_31 dX1_goOn_164 (mX (n := 1) (by decide) rfl (by omega)) ?_
        refine nmV (fun V_4 e_V_4 => ?_)
        have h := h V_4 e_V_4
        exact go_vret rfl dX1_goOn_167 h
      · have h := h.2 c_6
        refine go_iconst (v := 4) dX1_goOn_158 (by decide) ?_
        refine go_goto (tgt := 164) dX1_goOn_159 (by decide) ?_
        refine go_puti fp_X1_31 dX1_goOn_164 (mX (n := 1) (by decide) rfl (by omega)) ?_
        refine nmV (fun V_5 e_V_5 => ?_)
        have h := h V_5 e_V_5
        exact go_vret rfl dX1_goOn_167 h
def wpX1_goOn_104 (C : CT) (I27 : Int32 → Int32 → Mem → Prop) (I104 : Int32 → Int32 → Int32 → Int32 → Mem → Prop)  (x1 : Int32) (x2 : Int32) (x3 : Int32) (x4 : Int32) (V : Mem) (Q : Option AV → Mem → Prop) : Prop :=
  ((x4 = 3 → wpX1_goOn_138 C I27 I104  x1 x2 x3 x4 V Q) ∧ (¬ x4 = 3 → (((V 6 0 8) ≤ x2 → wpX1_goOn_138 C I27 I104  x1 x2 x3 x4 V Q) ∧ (¬ (V 6 0 8) ≤ x2 → (∃ j_1 : Nat, x2 = nI j_1 ∧ j_1 < 96 ∧ (cI C mX1_sortOf [aI (V 17 0 j_1)] V (fun x_3 V_2 => ((¬ x_3 = x4 → wpX1_goOn_138 C I27 I104  x1 x2 x3 x4 V_2 Q) ∧ (x_3 = x4 → I104 x1 (x2 + 1) x3 x4 V_2)))))))))
set_option maxRecDepth 10000 in
theorem okX1_goOn_104 {d : Nat} {P : Option AV → Mem → Prop} {I27 : Int32 → Int32 → Mem → Prop} {I104 : Int32 → Int32 → Int32 → Int32 → Mem → Prop}   (x1 : Int32) (x2 : Int32) (x3 : Int32) (x4 : Int32)  (V : Mem) (hk27 : ∀ (x1 : Int32) (x2 : Int32), ∀ (V : Mem), I27 x1 x2 V → Gq (Kp (d + 1) mX1_goOn UX P) UX cX1_goOn 5 RX1 27 [(0, aR 6 0), (1, aI x1), (2, aI x2)] [] V) (hk104 : ∀ (x1 : Int32) (x2 : Int32) (x3 : Int32) (x4 : Int32), ∀ (V : Mem), I104 x1 x2 x3 x4 V → Gq (Kp (d + 1) mX1_goOn UX P) UX cX1_goOn 5 RX1 104 [(0, aR 6 0), (1, aI x1), (2, aI x2), (3, aI x3), (4, aI x4)] [] V) (h : wpX1_goOn_104 (Cl UX d) I27 I104  x1 x2 x3 x4 V P) : Gq (Kp (d + 1) mX1_goOn UX P) UX cX1_goOn 5 RX1 104 [(0, aR 6 0), (1, aI x1), (2, aI x2), (3, aI x3), (4, aI x4)] [] V := by
  unfold wpX1_goOn_104 at h
  refine go_iload (q := 4) dX1_goOn_104 rfl ?_
  refine go_iconst (v := 3) dX1_goOn_106 (by decide) ?_
  refine go_icmp_eq (tgt := 138) dX1_goOn_107 (by decide) (fun c_6 => ?_) (fun c_6 => ?_)
  · have h := h.1 c_6
    exact okX1_goOn_138   x1 x2 x3 x4  V hk27 hk104 h
  · have h := h.2 c_6
    refine go_iload_n (q := 2) dX1_goOn_110 rfl rfl ?_
    refine go_aload_n (q := 0) dX1_goOn_111 rfl rfl ?_
    refine go_geti fg_X1_18 dX1_goOn_112 (mX (n := 1) (by decide) rfl (by omega)) ?_
    refine go_icmp_ge (tgt := 138) dX1_goOn_115 (by decide) (fun c_5 => ?_) (fun c_5 => ?_)
    · have h := h.1 c_5
      exact okX1_goOn_138   x1 x2 x3 x4  V hk27 hk104 h
    · have h := h.2 c_5
      refine go_aload_n (q := 0) dX1_goOn_118 rfl rfl ?_
      refine go_getr fg_X1_15 dX1_goOn_119 (mX (n := 1) (by decide) rfl (by omega)) ?_
      refine go_iload_n (q := 2) dX1_goOn_122 rfl rfl ?_
      obtain ⟨j_1, e_j_1, l_j_1, h⟩ := h
      refine go_iald (r := 17) (n := 96) (j := j_1) rfl (by decide) dX1_goOn_123 (mX (n := 1) (by decide) rfl (by omega)) e_j_1 l_j_1 ?_
      refine go_cSI (As := [aI (V 17 0 j_1)]) (st := []) ms_X1_sortOf dX1_goOn_124 ml_X1_112 (hr_Kp (Nat.le_refl d)) rfl rfl (Nat.le_of_ble_eq_true rfl) h (fun x_3 V_2 h => ?_)
      refine go_iload (q := 4) dX1_goOn_127 rfl ?_
      refine go_icmp_ne (tgt := 138) dX1_goOn_129 (by decide) (fun c_4 => ?_) (fun c_4 => ?_)
      · have h := h.1 c_4
        exact okX1_goOn_138   x1 x2 x3 x4  V_2 hk27 hk104 h
      · have h := h.2 c_4
        refine go_iinc (q := 2) (y := 1) (al1 := [(2, aI (x2 + 1)), (0, aR 6 0), (1, aI x1), (3, aI x3), (4, aI x4)]) dX1_goOn_132 rfl (by decide) (by decide) rfl ?_
        refine go_goto (tgt := 104) dX1_goOn_135 (by decide) ?_
        refine go_sub (al1 := [(0, aR 6 0), (1, aI x1), (2, aI (x2 + 1)), (3, aI x3), (4, aI x4)]) [1, 2, 0, 3, 4] rfl ?_
        exact hk104 x1 (x2 + 1) x3 x4  V_2 h
def wpX1_goOn_65 (C : CT) (I27 : Int32 → Int32 → Mem → Prop) (I104 : Int32 → Int32 → Int32 → Int32 → Mem → Prop)  (x1 : Int32) (x2 : Int32) (s0 : Int32) (V : Mem) (Q : Option AV → Mem → Prop) : Prop :=
  (∀ V_1 : Mem, V_1 = mu V 6 0 5 x2 → (∀ V_2 : Mem, V_2 = mu V_1 6 0 6 x2 → ((x2 < (V_2 6 0 8) → (∃ j_3 : Nat, x2 = nI j_3 ∧ j_3 < 96 ∧ (cI C mX1_sortOf [aI (V_2 17 0 j_3)] V_2 (fun x_5 V_4 => I104 x1 (x2 + 1) s0 x_5 V_4)))) ∧ (¬ x2 < (V_2 6 0 8) → (∀ V_6 : Mem, V_6 = mu V_2 6 0 7 0 → Q none V_6)))))
set_option maxRecDepth 10000 in
theorem okX1_goOn_65 {d : Nat} {P : Option AV → Mem → Prop} {I27 : Int32 → Int32 → Mem → Prop} {I104 : Int32 → Int32 → Int32 → Int32 → Mem → Prop}   (x1 : Int32) (x2 : Int32) (s0 : Int32)  (V : Mem) (hk27 : ∀ (x1 : Int32) (x2 : Int32), ∀ (V : Mem), I27 x1 x2 V → Gq (Kp (d + 1) mX1_goOn UX P) UX cX1_goOn 5 RX1 27 [(0, aR 6 0), (1, aI x1), (2, aI x2)] [] V) (hk104 : ∀ (x1 : Int32) (x2 : Int32) (x3 : Int32) (x4 : Int32), ∀ (V : Mem), I104 x1 x2 x3 x4 V → Gq (Kp (d + 1) mX1_goOn UX P) UX cX1_goOn 5 RX1 104 [(0, aR 6 0), (1, aI x1), (2, aI x2), (3, aI x3), (4, aI x4)] [] V) (h : wpX1_goOn_65 (Cl UX d) I27 I104  x1 x2 s0 V P) : Gq (Kp (d + 1) mX1_goOn UX P) UX cX1_goOn 5 RX1 65 [(0, aR 6 0), (1, aI x1), (2, aI x2)] [aI s0] V := by
  unfold wpX1_goOn_65 at h
  refine go_istore_n (al1 := [(3, aI s0), (0, aR 6 0), (1, aI x1), (2, aI x2)]) dX1_goOn_65 rfl (by decide) rfl ?_
  refine go_aload_n (q := 1) dX1_goOn_66 rfl rfl ?_
  refine go_iload_n (q := 3) dX1_goOn_67 rfl rfl ?_
  refine go_puti fp_X1_64 dX1_goOn_68 (mX (n := 1) (by decide) rfl (by omega)) ?_
  refine nmV (fun V_1 e_V_1 => ?_)
  have h := h V_1 e_V_1
  refine go_aload_n (q := 1) dX1_goOn_71 rfl rfl ?_
  refine go_iload_n (q := 3) dX1_goOn_72 rfl rfl ?_
  refine go_puti fp_X1_28 dX1_goOn_73 (mX (n := 1) (by decide) rfl (by omega)) ?_
  refine nmV (fun V_2 e_V_2 => ?_)
  have h := h V_2 e_V_2
  refine go_iload_n (q := 3) dX1_goOn_76 rfl rfl ?_
  refine go_aload_n (q := 1) dX1_goOn_77 rfl rfl ?_
  refine go_geti fg_X1_18 dX1_goOn_78 (mX (n := 1) (by decide) rfl (by omega)) ?_
  refine go_icmp_lt (tgt := 90) dX1_goOn_81 (by decide) (fun c_7 => ?_) (fun c_7 => ?_)
  · have h := h.1 c_7
    refine go_aload_n (q := 1) dX1_goOn_90 rfl rfl ?_
    refine go_getr fg_X1_15 dX1_goOn_91 (mX (n := 1) (by decide) rfl (by omega)) ?_
    refine go_iload_n (q := 3) dX1_goOn_94 rfl rfl ?_
    obtain ⟨j_3, e_j_3, l_j_3, h⟩ := h
    refine go_iald (r := 17) (n := 96) (j := j_3) rfl (by decide) dX1_goOn_95 (mX (n := 1) (by decide) rfl (by omega)) e_j_3 l_j_3 ?_
    refine go_cSI (As := [aI (V_2 17 0 j_3)]) (st := []) ms_X1_sortOf dX1_goOn_96 ml_X1_112 (hr_Kp (Nat.le_refl d)) rfl rfl (Nat.le_of_ble_eq_true rfl) h (fun x_5 V_4 h => ?_)
    refine go_istore (al1 := [(4, aI x_5), (3, aI s0), (0, aR 6 0), (1, aI x1), (2, aI x2)]) dX1_goOn_99 (by decide) rfl ?_
    refine go_iinc (q := 4) (y := 1) (al1 := [(2, aI (x2 + 1)), (4, aI x_5), (3, aI s0), (0, aR 6 0), (1, aI x1)]) dX1_goOn_101 rfl (by decide) (by decide) rfl ?_
    refine go_sub (al1 := [(0, aR 6 0), (1, aI x1), (2, aI (x2 + 1)), (3, aI s0), (4, aI x_5)]) [3, 4, 0, 2, 1] rfl ?_
    exact hk104 x1 (x2 + 1) s0 x_5  V_4 h
  · have h := h.2 c_7
    refine go_aload_n (q := 1) dX1_goOn_84 rfl rfl ?_
    refine go_iconst (v := 0) dX1_goOn_85 (by decide) ?_
    refine go_puti fp_X1_31 dX1_goOn_86 (mX (n := 1) (by decide) rfl (by omega)) ?_
    refine nmV (fun V_6 e_V_6 => ?_)
    have h := h V_6 e_V_6
    exact go_vret rfl dX1_goOn_89 h
def wpX1_goOn_52 (C : CT) (I27 : Int32 → Int32 → Mem → Prop) (I104 : Int32 → Int32 → Int32 → Int32 → Mem → Prop)  (x1 : Int32) (x2 : Int32) (V : Mem) (Q : Option AV → Mem → Prop) : Prop :=
  ((x2 ≤ (V 6 0 6) → wpX1_goOn_65 C I27 I104  x1 x2 0 V Q) ∧ (¬ x2 ≤ (V 6 0 6) → wpX1_goOn_65 C I27 I104  x1 x2 1 V Q))
set_option maxRecDepth 10000 in
theorem okX1_goOn_52 {d : Nat} {P : Option AV → Mem → Prop} {I27 : Int32 → Int32 → Mem → Prop} {I104 : Int32 → Int32 → Int32 → Int32 → Mem → Prop}   (x1 : Int32) (x2 : Int32)  (V : Mem) (hk27 : ∀ (x1 : Int32) (x2 : Int32), ∀ (V : Mem), I27 x1 x2 V → Gq (Kp (d + 1) mX1_goOn UX P) UX cX1_goOn 5 RX1 27 [(0, aR 6 0), (1, aI x1), (2, aI x2)] [] V) (hk104 : ∀ (x1 : Int32) (x2 : Int32) (x3 : Int32) (x4 : Int32), ∀ (V : Mem), I104 x1 x2 x3 x4 V → Gq (Kp (d + 1) mX1_goOn UX P) UX cX1_goOn 5 RX1 104 [(0, aR 6 0), (1, aI x1), (2, aI x2), (3, aI x3), (4, aI x4)] [] V) (h : wpX1_goOn_52 (Cl UX d) I27 I104  x1 x2 V P) : Gq (Kp (d + 1) mX1_goOn UX P) UX cX1_goOn 5 RX1 52 [(0, aR 6 0), (1, aI x1), (2, aI x2)] [] V := by
  unfold wpX1_goOn_52 at h
  refine go_iload_n (q := 2) dX1_goOn_52 rfl rfl ?_
  refine go_aload_n (q := 0) dX1_goOn_53 rfl rfl ?_
  refine go_geti fg_X1_28 dX1_goOn_54 (mX (n := 1) (by decide) rfl (by omega)) ?_
  refine go_icmp_le (tgt := 64) dX1_goOn_57 (by decide) (fun c_1 => ?_) (fun c_1 => ?_)
  · have h := h.1 c_1
    refine go_iconst (v := 0) dX1_goOn_64 (by decide) ?_
    exact okX1_goOn_65   x1 x2 0  V hk27 hk104 h
  · have h := h.2 c_1
    refine go_iconst (v := 1) dX1_goOn_60 (by decide) ?_
    refine go_goto (tgt := 65) dX1_goOn_61 (by decide) ?_
    exact okX1_goOn_65   x1 x2 1  V hk27 hk104 h
def wpX1_goOn_27 (C : CT) (I27 : Int32 → Int32 → Mem → Prop) (I104 : Int32 → Int32 → Int32 → Int32 → Mem → Prop)  (x1 : Int32) (x2 : Int32) (V : Mem) (Q : Option AV → Mem → Prop) : Prop :=
  (((V 6 0 8) ≤ x2 → wpX1_goOn_52 C I27 I104  x1 x2 V Q) ∧ (¬ (V 6 0 8) ≤ x2 → (∃ j_1 : Nat, x2 = nI j_1 ∧ j_1 < 96 ∧ ((¬ (V 17 0 j_1) = 32 → wpX1_goOn_52 C I27 I104  x1 x2 V Q) ∧ ((V 17 0 j_1) = 32 → I27 x1 (x2 + 1) V)))))
set_option maxRecDepth 10000 in
theorem okX1_goOn_27 {d : Nat} {P : Option AV → Mem → Prop} {I27 : Int32 → Int32 → Mem → Prop} {I104 : Int32 → Int32 → Int32 → Int32 → Mem → Prop}   (x1 : Int32) (x2 : Int32)  (V : Mem) (hk27 : ∀ (x1 : Int32) (x2 : Int32), ∀ (V : Mem), I27 x1 x2 V → Gq (Kp (d + 1) mX1_goOn UX P) UX cX1_goOn 5 RX1 27 [(0, aR 6 0), (1, aI x1), (2, aI x2)] [] V) (hk104 : ∀ (x1 : Int32) (x2 : Int32) (x3 : Int32) (x4 : Int32), ∀ (V : Mem), I104 x1 x2 x3 x4 V → Gq (Kp (d + 1) mX1_goOn UX P) UX cX1_goOn 5 RX1 104 [(0, aR 6 0), (1, aI x1), (2, aI x2), (3, aI x3), (4, aI x4)] [] V) (h : wpX1_goOn_27 (Cl UX d) I27 I104  x1 x2 V P) : Gq (Kp (d + 1) mX1_goOn UX P) UX cX1_goOn 5 RX1 27 [(0, aR 6 0), (1, aI x1), (2, aI x2)] [] V := by
  unfold wpX1_goOn_27 at h
  refine go_iload_n (q := 2) dX1_goOn_27 rfl rfl ?_
  refine go_aload_n (q := 0) dX1_goOn_28 rfl rfl ?_
  refine go_geti fg_X1_18 dX1_goOn_29 (mX (n := 1) (by decide) rfl (by omega)) ?_
  refine go_icmp_ge (tgt := 52) dX1_goOn_32 (by decide) (fun c_3 => ?_) (fun c_3 => ?_)
  · have h := h.1 c_3
    exact okX1_goOn_52   x1 x2  V hk27 hk104 h
  · have h := h.2 c_3
    refine go_aload_n (q := 0) dX1_goOn_35 rfl rfl ?_
    refine go_getr fg_X1_15 dX1_goOn_36 (mX (n := 1) (by decide) rfl (by omega)) ?_
    refine go_iload_n (q := 2) dX1_goOn_39 rfl rfl ?_
    obtain ⟨j_1, e_j_1, l_j_1, h⟩ := h
    refine go_iald (r := 17) (n := 96) (j := j_1) rfl (by decide) dX1_goOn_40 (mX (n := 1) (by decide) rfl (by omega)) e_j_1 l_j_1 ?_
    refine go_bipush (v := 32) dX1_goOn_41 (by decide) ?_
    refine go_icmp_ne (tgt := 52) dX1_goOn_43 (by decide) (fun c_2 => ?_) (fun c_2 => ?_)
    · have h := h.1 c_2
      exact okX1_goOn_52   x1 x2  V hk27 hk104 h
    · have h := h.2 c_2
      refine go_iinc (q := 2) (y := 1) (al1 := [(2, aI (x2 + 1)), (0, aR 6 0), (1, aI x1)]) dX1_goOn_46 rfl (by decide) (by decide) rfl ?_
      refine go_goto (tgt := 27) dX1_goOn_49 (by decide) ?_
      refine go_sub (al1 := [(0, aR 6 0), (1, aI x1), (2, aI (x2 + 1))]) [1, 2, 0] rfl ?_
      exact hk27 x1 (x2 + 1)  V h
def wpX1_goOn_0 (C : CT) (I27 : Int32 → Int32 → Mem → Prop) (I104 : Int32 → Int32 → Int32 → Int32 → Mem → Prop)   (V : Mem) (Q : Option AV → Mem → Prop) : Prop :=
  (((V 6 0 7) = 1 → (∀ z_1 : Int32, z_1 = (V 6 0 6) → I27 1 z_1 V)) ∧ (¬ (V 6 0 7) = 1 → ((¬ (V 6 0 7) = 2 → (∀ z_2 : Int32, z_2 = (V 6 0 6) → I27 0 z_2 V)) ∧ ((V 6 0 7) = 2 → (∀ z_3 : Int32, z_3 = (V 6 0 6) → I27 1 z_3 V)))))
set_option maxRecDepth 10000 in
theorem okX1_goOn_0 {d : Nat} {P : Option AV → Mem → Prop} {I27 : Int32 → Int32 → Mem → Prop} {I104 : Int32 → Int32 → Int32 → Int32 → Mem → Prop}     (V : Mem) (hk27 : ∀ (x1 : Int32) (x2 : Int32), ∀ (V : Mem), I27 x1 x2 V → Gq (Kp (d + 1) mX1_goOn UX P) UX cX1_goOn 5 RX1 27 [(0, aR 6 0), (1, aI x1), (2, aI x2)] [] V) (hk104 : ∀ (x1 : Int32) (x2 : Int32) (x3 : Int32) (x4 : Int32), ∀ (V : Mem), I104 x1 x2 x3 x4 V → Gq (Kp (d + 1) mX1_goOn UX P) UX cX1_goOn 5 RX1 104 [(0, aR 6 0), (1, aI x1), (2, aI x2), (3, aI x3), (4, aI x4)] [] V) (h : wpX1_goOn_0 (Cl UX d) I27 I104   V P) : Gq (Kp (d + 1) mX1_goOn UX P) UX cX1_goOn 5 RX1 0 [(0, aR 6 0)] [] V := by
  unfold wpX1_goOn_0 at h
  refine go_aload_n (q := 0) dX1_goOn_0 rfl rfl ?_
  refine go_geti fg_X1_31 dX1_goOn_1 (mX (n := 1) (by decide) rfl (by omega)) ?_
  refine go_iconst (v := 1) dX1_goOn_4 (by decide) ?_
  refine go_icmp_eq (tgt := 16) dX1_goOn_5 (by decide) (fun c_5 => ?_) (fun c_5 => ?_)
  · have h := h.1 c_5
    refine go_iconst (v := 1) dX1_goOn_16 (by decide) ?_
    refine go_goto (tgt := 21) dX1_goOn_17 (by decide) ?_
    refine go_istore_n (al1 := [(1, aI 1), (0, aR 6 0)]) dX1_goOn_21 rfl (by decide) rfl ?_
    refine go_aload_n (q := 1) dX1_goOn_22 rfl rfl ?_
    refine go_geti fg_X1_28 dX1_goOn_23 (mX (n := 1) (by decide) rfl (by omega)) ?_
    refine nmI (fun z_1 e_z_1 => ?_)
    have h := h z_1 e_z_1
    refine go_istore_n (al1 := [(2, aI z_1), (1, aI 1), (0, aR 6 0)]) dX1_goOn_26 rfl (by decide) rfl ?_
    refine go_sub (al1 := [(0, aR 6 0), (1, aI 1), (2, aI z_1)]) [2, 1, 0] rfl ?_
    exact hk27 1 z_1  V h
  · have h := h.2 c_5
    refine go_aload_n (q := 0) dX1_goOn_8 rfl rfl ?_
    refine go_geti fg_X1_31 dX1_goOn_9 (mX (n := 1) (by decide) rfl (by omega)) ?_
    refine go_iconst (v := 2) dX1_goOn_12 (by decide) ?_
    refine go_icmp_ne (tgt := 20) dX1_goOn_13 (by decide) (fun c_4 => ?_) (fun c_4 => ?_)
    · have h := h.1 c_4
      refine go_iconst (v := 0) dX1_goOn_20 (by decide) ?_
      refine go_istore_n (al1 := [(1, aI 0), (0, aR 6 0)]) dX1_goOn_21 rfl (by decide) rfl ?_
      refine go_aload_n (q := 1) dX1_goOn_22 rfl rfl ?_
      refine go_geti fg_X1_28 dX1_goOn_23 (mX (n := 1) (by decide) rfl (by omega)) ?_
      refine nmI (fun z_2 e_z_2 => ?_)
      have h := h z_2 e_z_2
      refine go_istore_n (al1 := [(2, aI z_2), (1, aI 0), (0, aR 6 0)]) dX1_goOn_26 rfl (by decide) rfl ?_
      refine go_sub (al1 := [(0, aR 6 0), (1, aI 0), (2, aI z_2)]) [2, 1, 0] rfl ?_
      exact hk27 0 z_2  V h
    · have h := h.2 c_4
      refine go_iconst (v := 1) dX1_goOn_16 (by decide) ?_
      refine go_goto (tgt := 21) dX1_goOn_17 (by decide) ?_
      refine go_istore_n (al1 := [(1, aI 1), (0, aR 6 0)]) dX1_goOn_21 rfl (by decide) rfl ?_
      refine go_aload_n (q := 1) dX1_goOn_22 rfl rfl ?_
      refine go_geti fg_X1_28 dX1_goOn_23 (mX (n := 1) (by decide) rfl (by omega)) ?_
      refine nmI (fun z_3 e_z_3 => ?_)
      have h := h z_3 e_z_3
      refine go_istore_n (al1 := [(2, aI z_3), (1, aI 1), (0, aR 6 0)]) dX1_goOn_26 rfl (by decide) rfl ?_
      refine go_sub (al1 := [(0, aR 6 0), (1, aI 1), (2, aI z_3)]) [2, 1, 0] rfl ?_
      exact hk27 1 z_3  V h
theorem clX1_goOn {d : Nat} {P : Option AV → Mem → Prop} {I27 : Int32 → Int32 → Mem → Prop} {I104 : Int32 → Int32 → Int32 → Int32 → Mem → Prop}    (V : Mem) (hk27 : ∀ (x1 : Int32) (x2 : Int32), ∀ (V : Mem), I27 x1 x2 V → Gq (Kp (d + 1) mX1_goOn UX P) UX cX1_goOn 5 RX1 27 [(0, aR 6 0), (1, aI x1), (2, aI x2)] [] V) (hk104 : ∀ (x1 : Int32) (x2 : Int32) (x3 : Int32) (x4 : Int32), ∀ (V : Mem), I104 x1 x2 x3 x4 V → Gq (Kp (d + 1) mX1_goOn UX P) UX cX1_goOn 5 RX1 104 [(0, aR 6 0), (1, aI x1), (2, aI x2), (3, aI x3), (4, aI x4)] [] V) (h : wpX1_goOn_0 (Cl UX d) I27 I104   V P) : Cl UX (d + 1) mX1_goOn [aR 6 0] V P :=
  cl_of [(0, aR 6 0)] (by decide) (fun _ => Nat.le_of_ble_eq_true rfl) (fun _ => rfl) (okX1_goOn_0    V hk27 hk104 h)
theorem dX1_sortOf_0 : decode cX1_sortOf 0 = .ok (.iload_n 0, 1) := by decide +kernel
theorem dX1_sortOf_1 : decode cX1_sortOf 1 = .ok (.bipush 97, 2) := by decide +kernel
theorem dX1_sortOf_3 : decode cX1_sortOf 3 = .ok (.if_icmp .lt 11, 3) := by decide +kernel
theorem dX1_sortOf_6 : decode cX1_sortOf 6 = .ok (.iload_n 0, 1) := by decide +kernel
theorem dX1_sortOf_7 : decode cX1_sortOf 7 = .ok (.bipush 122, 2) := by decide +kernel
theorem dX1_sortOf_9 : decode cX1_sortOf 9 = .ok (.if_icmp .gt 5, 3) := by decide +kernel
theorem dX1_sortOf_12 : decode cX1_sortOf 12 = .ok (.iconst 1, 1) := by decide +kernel
theorem dX1_sortOf_13 : decode cX1_sortOf 13 = .ok (.ireturn, 1) := by decide +kernel
theorem dX1_sortOf_14 : decode cX1_sortOf 14 = .ok (.iload_n 0, 1) := by decide +kernel
theorem dX1_sortOf_15 : decode cX1_sortOf 15 = .ok (.bipush 48, 2) := by decide +kernel
theorem dX1_sortOf_17 : decode cX1_sortOf 17 = .ok (.if_icmp .lt 13, 3) := by decide +kernel
theorem dX1_sortOf_20 : decode cX1_sortOf 20 = .ok (.iload_n 0, 1) := by decide +kernel
theorem dX1_sortOf_21 : decode cX1_sortOf 21 = .ok (.bipush 57, 2) := by decide +kernel
theorem dX1_sortOf_23 : decode cX1_sortOf 23 = .ok (.if_icmp .gt 7, 3) := by decide +kernel
theorem dX1_sortOf_26 : decode cX1_sortOf 26 = .ok (.iconst 2, 1) := by decide +kernel
theorem dX1_sortOf_27 : decode cX1_sortOf 27 = .ok (.goto 4, 3) := by decide +kernel
theorem dX1_sortOf_30 : decode cX1_sortOf 30 = .ok (.iconst 3, 1) := by decide +kernel
theorem dX1_sortOf_31 : decode cX1_sortOf 31 = .ok (.ireturn, 1) := by decide +kernel
def wpX1_sortOf_14 (C : CT)   (x0 : Int32) (V : Mem) (Q : Option AV → Mem → Prop) : Prop :=
  ((x0 < 48 → Q (some (aI 3)) V) ∧ (¬ x0 < 48 → ((57 < x0 → Q (some (aI 3)) V) ∧ (¬ 57 < x0 → Q (some (aI 2)) V))))
set_option maxRecDepth 10000 in
theorem okX1_sortOf_14 {d : Nat} {P : Option AV → Mem → Prop}    (x0 : Int32)  (V : Mem)  (h : wpX1_sortOf_14 (Cl UX d)   x0 V P) : Gq (Kp (d + 1) mX1_sortOf UX P) UX cX1_sortOf 1 RX1 14 [(0, aI x0)] [] V := by
  unfold wpX1_sortOf_14 at h
  refine go_iload_n (q := 0) dX1_sortOf_14 rfl rfl ?_
  refine go_bipush (v := 48) dX1_sortOf_15 (by decide) ?_
  refine go_icmp_lt (tgt := 30) dX1_sortOf_17 (by decide) (fun c_2 => ?_) (fun c_2 => ?_)
  · have h := h.1 c_2
    refine go_iconst (v := 3) dX1_sortOf_30 (by decide) ?_
    exact go_iret rfl dX1_sortOf_31 h
  · have h := h.2 c_2
    refine go_iload_n (q := 0) dX1_sortOf_20 rfl rfl ?_
    refine go_bipush (v := 57) dX1_sortOf_21 (by decide) ?_
    refine go_icmp_gt (tgt := 30) dX1_sortOf_23 (by decide) (fun c_1 => ?_) (fun c_1 => ?_)
    · have h := h.1 c_1
      refine go_iconst (v := 3) dX1_sortOf_30 (by decide) ?_
      exact go_iret rfl dX1_sortOf_31 h
    · have h := h.2 c_1
      refine go_iconst (v := 2) dX1_sortOf_26 (by decide) ?_
      refine go_goto (tgt := 31) dX1_sortOf_27 (by decide) ?_
      exact go_iret rfl dX1_sortOf_31 h
def wpX1_sortOf_0 (C : CT)   (x0 : Int32) (V : Mem) (Q : Option AV → Mem → Prop) : Prop :=
  ((x0 < 97 → wpX1_sortOf_14 C   x0 V Q) ∧ (¬ x0 < 97 → ((122 < x0 → wpX1_sortOf_14 C   x0 V Q) ∧ (¬ 122 < x0 → Q (some (aI 1)) V))))
set_option maxRecDepth 10000 in
theorem okX1_sortOf_0 {d : Nat} {P : Option AV → Mem → Prop}    (x0 : Int32)  (V : Mem)  (h : wpX1_sortOf_0 (Cl UX d)   x0 V P) : Gq (Kp (d + 1) mX1_sortOf UX P) UX cX1_sortOf 1 RX1 0 [(0, aI x0)] [] V := by
  unfold wpX1_sortOf_0 at h
  refine go_iload_n (q := 0) dX1_sortOf_0 rfl rfl ?_
  refine go_bipush (v := 97) dX1_sortOf_1 (by decide) ?_
  refine go_icmp_lt (tgt := 14) dX1_sortOf_3 (by decide) (fun c_2 => ?_) (fun c_2 => ?_)
  · have h := h.1 c_2
    exact okX1_sortOf_14   x0  V  h
  · have h := h.2 c_2
    refine go_iload_n (q := 0) dX1_sortOf_6 rfl rfl ?_
    refine go_bipush (v := 122) dX1_sortOf_7 (by decide) ?_
    refine go_icmp_gt (tgt := 14) dX1_sortOf_9 (by decide) (fun c_1 => ?_) (fun c_1 => ?_)
    · have h := h.1 c_1
      exact okX1_sortOf_14   x0  V  h
    · have h := h.2 c_1
      refine go_iconst (v := 1) dX1_sortOf_12 (by decide) ?_
      exact go_iret rfl dX1_sortOf_13 h
theorem clX1_sortOf {d : Nat} {P : Option AV → Mem → Prop}    (x0 : Int32) (V : Mem)  (h : wpX1_sortOf_0 (Cl UX d)   x0 V P) : Cl UX (d + 1) mX1_sortOf [aI x0] V P :=
  cl_of [(0, aI x0)] (by decide) (fun _ => Nat.le_of_ble_eq_true rfl) (fun _ => rfl) (okX1_sortOf_0   x0 V  h)
theorem dX2_begin_0 : decode cX2_begin 0 = .ok (.aload_n 0, 1) := by decide +kernel
theorem dX2_begin_1 : decode cX2_begin 1 = .ok (.iload_n 1, 1) := by decide +kernel
theorem dX2_begin_2 : decode cX2_begin 2 = .ok (.putfield 9, 3) := by decide +kernel
theorem dX2_begin_5 : decode cX2_begin 5 = .ok (.aload_n 0, 1) := by decide +kernel
theorem dX2_begin_6 : decode cX2_begin 6 = .ok (.iload_n 2, 1) := by decide +kernel
theorem dX2_begin_7 : decode cX2_begin 7 = .ok (.putfield 15, 3) := by decide +kernel
theorem dX2_begin_10 : decode cX2_begin 10 = .ok (.aload_n 0, 1) := by decide +kernel
theorem dX2_begin_11 : decode cX2_begin 11 = .ok (.iconst 0, 1) := by decide +kernel
theorem dX2_begin_12 : decode cX2_begin 12 = .ok (.putfield 18, 3) := by decide +kernel
theorem dX2_begin_15 : decode cX2_begin 15 = .ok (.aload_n 0, 1) := by decide +kernel
theorem dX2_begin_16 : decode cX2_begin 16 = .ok (.bipush 100, 2) := by decide +kernel
theorem dX2_begin_18 : decode cX2_begin 18 = .ok (.putfield 21, 3) := by decide +kernel
theorem dX2_begin_21 : decode cX2_begin 21 = .ok (.aload_n 0, 1) := by decide +kernel
theorem dX2_begin_22 : decode cX2_begin 22 = .ok (.iconst 0, 1) := by decide +kernel
theorem dX2_begin_23 : decode cX2_begin 23 = .ok (.putfield 24, 3) := by decide +kernel
theorem dX2_begin_26 : decode cX2_begin 26 = .ok (.aload_n 0, 1) := by decide +kernel
theorem dX2_begin_27 : decode cX2_begin 27 = .ok (.iconst 0, 1) := by decide +kernel
theorem dX2_begin_28 : decode cX2_begin 28 = .ok (.putfield 27, 3) := by decide +kernel
theorem dX2_begin_31 : decode cX2_begin 31 = .ok (.return_, 1) := by decide +kernel
def wpX2_begin_0 (C : CT)  (i0 : Nat) (x1 : Int32) (x2 : Int32) (V : Mem) (Q : Option AV → Mem → Prop) : Prop :=
  (∀ V_1 : Mem, V_1 = mu V 3 i0 0 x1 → (∀ V_2 : Mem, V_2 = mu V_1 3 i0 1 x2 → (∀ V_3 : Mem, V_3 = mu V_2 3 i0 2 0 → (∀ V_4 : Mem, V_4 = mu V_3 3 i0 3 100 → (∀ V_5 : Mem, V_5 = mu V_4 3 i0 4 0 → (∀ V_6 : Mem, V_6 = mu V_5 3 i0 5 0 → Q none V_6))))))
set_option maxRecDepth 10000 in
theorem okX2_begin_0 {d : Nat} {P : Option AV → Mem → Prop}  (i0 : Nat) (h_i0 : i0 < 29) (x1 : Int32) (x2 : Int32)  (V : Mem)  (h : wpX2_begin_0 (Cl UX d)  i0 x1 x2 V P) : Gq (Kp (d + 1) mX2_begin UX P) UX cX2_begin 3 RX2 0 [(0, aR 3 i0), (1, aI x1), (2, aI x2)] [] V := by
  unfold wpX2_begin_0 at h
  refine go_aload_n (q := 0) dX2_begin_0 rfl rfl ?_
  refine go_iload_n (q := 1) dX2_begin_1 rfl rfl ?_
  refine go_puti fp_X2_9 dX2_begin_2 (mX (n := 29) (by decide) rfl (by omega)) ?_
  refine nmV (fun V_1 e_V_1 => ?_)
  have h := h V_1 e_V_1
  refine go_aload_n (q := 0) dX2_begin_5 rfl rfl ?_
  refine go_iload_n (q := 2) dX2_begin_6 rfl rfl ?_
  refine go_puti fp_X2_15 dX2_begin_7 (mX (n := 29) (by decide) rfl (by omega)) ?_
  refine nmV (fun V_2 e_V_2 => ?_)
  have h := h V_2 e_V_2
  refine go_aload_n (q := 0) dX2_begin_10 rfl rfl ?_
  refine go_iconst (v := 0) dX2_begin_11 (by decide) ?_
  refine go_puti fp_X2_18 dX2_begin_12 (mX (n := 29) (by decide) rfl (by omega)) ?_
  refine nmV (fun V_3 e_V_3 => ?_)
  have h := h V_3 e_V_3
  refine go_aload_n (q := 0) dX2_begin_15 rfl rfl ?_
  refine go_bipush (v := 100) dX2_begin_16 (by decide) ?_
  refine go_puti fp_X2_21 dX2_begin_18 (mX (n := 29) (by decide) rfl (by omega)) ?_
  refine nmV (fun V_4 e_V_4 => ?_)
  have h := h V_4 e_V_4
  refine go_aload_n (q := 0) dX2_begin_21 rfl rfl ?_
  refine go_iconst (v := 0) dX2_begin_22 (by decide) ?_
  refine go_puti fp_X2_24 dX2_begin_23 (mX (n := 29) (by decide) rfl (by omega)) ?_
  refine nmV (fun V_5 e_V_5 => ?_)
  have h := h V_5 e_V_5
  refine go_aload_n (q := 0) dX2_begin_26 rfl rfl ?_
  refine go_iconst (v := 0) dX2_begin_27 (by decide) ?_
  refine go_puti fp_X2_27 dX2_begin_28 (mX (n := 29) (by decide) rfl (by omega)) ?_
  refine nmV (fun V_6 e_V_6 => ?_)
  have h := h V_6 e_V_6
  exact go_vret rfl dX2_begin_31 h
theorem clX2_begin {d : Nat} {P : Option AV → Mem → Prop}  (i0 : Nat) (h_i0 : i0 < 29) (x1 : Int32) (x2 : Int32) (V : Mem)  (h : wpX2_begin_0 (Cl UX d)  i0 x1 x2 V P) : Cl UX (d + 1) mX2_begin [aR 3 i0, aI x1, aI x2] V P :=
  cl_of [(0, aR 3 i0), (1, aI x1), (2, aI x2)] (by decide) (fun _ => Nat.le_of_ble_eq_true rfl) (fun _ => rfl) (okX2_begin_0 i0 h_i0 x1 x2 V  h)
theorem dX2_become_0 : decode cX2_become 0 = .ok (.aload_n 0, 1) := by decide +kernel
theorem dX2_become_1 : decode cX2_become 1 = .ok (.aload_n 1, 1) := by decide +kernel
theorem dX2_become_2 : decode cX2_become 2 = .ok (.getfield 9, 3) := by decide +kernel
theorem dX2_become_5 : decode cX2_become 5 = .ok (.putfield 9, 3) := by decide +kernel
theorem dX2_become_8 : decode cX2_become 8 = .ok (.aload_n 0, 1) := by decide +kernel
theorem dX2_become_9 : decode cX2_become 9 = .ok (.aload_n 1, 1) := by decide +kernel
theorem dX2_become_10 : decode cX2_become 10 = .ok (.getfield 15, 3) := by decide +kernel
theorem dX2_become_13 : decode cX2_become 13 = .ok (.putfield 15, 3) := by decide +kernel
theorem dX2_become_16 : decode cX2_become 16 = .ok (.aload_n 0, 1) := by decide +kernel
theorem dX2_become_17 : decode cX2_become 17 = .ok (.aload_n 1, 1) := by decide +kernel
theorem dX2_become_18 : decode cX2_become 18 = .ok (.getfield 18, 3) := by decide +kernel
theorem dX2_become_21 : decode cX2_become 21 = .ok (.putfield 18, 3) := by decide +kernel
theorem dX2_become_24 : decode cX2_become 24 = .ok (.aload_n 0, 1) := by decide +kernel
theorem dX2_become_25 : decode cX2_become 25 = .ok (.aload_n 1, 1) := by decide +kernel
theorem dX2_become_26 : decode cX2_become 26 = .ok (.getfield 21, 3) := by decide +kernel
theorem dX2_become_29 : decode cX2_become 29 = .ok (.putfield 21, 3) := by decide +kernel
theorem dX2_become_32 : decode cX2_become 32 = .ok (.aload_n 0, 1) := by decide +kernel
theorem dX2_become_33 : decode cX2_become 33 = .ok (.aload_n 1, 1) := by decide +kernel
theorem dX2_become_34 : decode cX2_become 34 = .ok (.getfield 24, 3) := by decide +kernel
theorem dX2_become_37 : decode cX2_become 37 = .ok (.putfield 24, 3) := by decide +kernel
theorem dX2_become_40 : decode cX2_become 40 = .ok (.aload_n 0, 1) := by decide +kernel
theorem dX2_become_41 : decode cX2_become 41 = .ok (.aload_n 1, 1) := by decide +kernel
theorem dX2_become_42 : decode cX2_become 42 = .ok (.getfield 27, 3) := by decide +kernel
theorem dX2_become_45 : decode cX2_become 45 = .ok (.putfield 27, 3) := by decide +kernel
theorem dX2_become_48 : decode cX2_become 48 = .ok (.return_, 1) := by decide +kernel
def wpX2_become_0 (C : CT)  (i0 : Nat) (n1 : Nat)  (V : Mem) (Q : Option AV → Mem → Prop) : Prop :=
  (∀ V_1 : Mem, V_1 = mu V 3 i0 0 (V 3 n1 0) → (∀ V_2 : Mem, V_2 = mu V_1 3 i0 1 (V_1 3 n1 1) → (∀ V_3 : Mem, V_3 = mu V_2 3 i0 2 (V_2 3 n1 2) → (∀ V_4 : Mem, V_4 = mu V_3 3 i0 3 (V_3 3 n1 3) → (∀ V_5 : Mem, V_5 = mu V_4 3 i0 4 (V_4 3 n1 4) → (∀ V_6 : Mem, V_6 = mu V_5 3 i0 5 (V_5 3 n1 5) → Q none V_6))))))
set_option maxRecDepth 10000 in
theorem okX2_become_0 {d : Nat} {P : Option AV → Mem → Prop}  (i0 : Nat) (n1 : Nat) (h_i0 : i0 < 29) (h_n1 : n1 < 29)   (V : Mem)  (h : wpX2_become_0 (Cl UX d)  i0 n1  V P) : Gq (Kp (d + 1) mX2_become UX P) UX cX2_become 2 RX2 0 [(0, aR 3 i0), (1, aR 3 n1)] [] V := by
  unfold wpX2_become_0 at h
  refine go_aload_n (q := 0) dX2_become_0 rfl rfl ?_
  refine go_aload_n (q := 1) dX2_become_1 rfl rfl ?_
  refine go_geti fg_X2_9 dX2_become_2 (mX (n := 29) (by decide) rfl (by omega)) ?_
  refine go_puti fp_X2_9 dX2_become_5 (mX (n := 29) (by decide) rfl (by omega)) ?_
  refine nmV (fun V_1 e_V_1 => ?_)
  have h := h V_1 e_V_1
  refine go_aload_n (q := 0) dX2_become_8 rfl rfl ?_
  refine go_aload_n (q := 1) dX2_become_9 rfl rfl ?_
  refine go_geti fg_X2_15 dX2_become_10 (mX (n := 29) (by decide) rfl (by omega)) ?_
  refine go_puti fp_X2_15 dX2_become_13 (mX (n := 29) (by decide) rfl (by omega)) ?_
  refine nmV (fun V_2 e_V_2 => ?_)
  have h := h V_2 e_V_2
  refine go_aload_n (q := 0) dX2_become_16 rfl rfl ?_
  refine go_aload_n (q := 1) dX2_become_17 rfl rfl ?_
  refine go_geti fg_X2_18 dX2_become_18 (mX (n := 29) (by decide) rfl (by omega)) ?_
  refine go_puti fp_X2_18 dX2_become_21 (mX (n := 29) (by decide) rfl (by omega)) ?_
  refine nmV (fun V_3 e_V_3 => ?_)
  have h := h V_3 e_V_3
  refine go_aload_n (q := 0) dX2_become_24 rfl rfl ?_
  refine go_aload_n (q := 1) dX2_become_25 rfl rfl ?_
  refine go_geti fg_X2_21 dX2_become_26 (mX (n := 29) (by decide) rfl (by omega)) ?_
  refine go_puti fp_X2_21 dX2_become_29 (mX (n := 29) (by decide) rfl (by omega)) ?_
  refine nmV (fun V_4 e_V_4 => ?_)
  have h := h V_4 e_V_4
  refine go_aload_n (q := 0) dX2_become_32 rfl rfl ?_
  refine go_aload_n (q := 1) dX2_become_33 rfl rfl ?_
  refine go_geti fg_X2_24 dX2_become_34 (mX (n := 29) (by decide) rfl (by omega)) ?_
  refine go_puti fp_X2_24 dX2_become_37 (mX (n := 29) (by decide) rfl (by omega)) ?_
  refine nmV (fun V_5 e_V_5 => ?_)
  have h := h V_5 e_V_5
  refine go_aload_n (q := 0) dX2_become_40 rfl rfl ?_
  refine go_aload_n (q := 1) dX2_become_41 rfl rfl ?_
  refine go_geti fg_X2_27 dX2_become_42 (mX (n := 29) (by decide) rfl (by omega)) ?_
  refine go_puti fp_X2_27 dX2_become_45 (mX (n := 29) (by decide) rfl (by omega)) ?_
  refine nmV (fun V_6 e_V_6 => ?_)
  have h := h V_6 e_V_6
  exact go_vret rfl dX2_become_48 h
theorem clX2_become {d : Nat} {P : Option AV → Mem → Prop}  (i0 : Nat) (n1 : Nat) (h_i0 : i0 < 29) (h_n1 : n1 < 29)  (V : Mem)  (h : wpX2_become_0 (Cl UX d)  i0 n1  V P) : Cl UX (d + 1) mX2_become [aR 3 i0, aR 3 n1] V P :=
  cl_of [(0, aR 3 i0), (1, aR 3 n1)] (by decide) (fun _ => Nat.le_of_ble_eq_true rfl) (fun _ => rfl) (okX2_become_0 i0 n1 h_i0 h_n1  V  h)
theorem dX2_isOf_0 : decode cX2_isOf 0 = .ok (.aload_n 0, 1) := by decide +kernel
theorem dX2_isOf_1 : decode cX2_isOf 1 = .ok (.getfield 9, 3) := by decide +kernel
theorem dX2_isOf_4 : decode cX2_isOf 4 = .ok (.istore_n 2, 1) := by decide +kernel
theorem dX2_isOf_5 : decode cX2_isOf 5 = .ok (.iconst 0, 1) := by decide +kernel
theorem dX2_isOf_6 : decode cX2_isOf 6 = .ok (.istore_n 3, 1) := by decide +kernel
theorem dX2_isOf_7 : decode cX2_isOf 7 = .ok (.iload_n 3, 1) := by decide +kernel
theorem dX2_isOf_8 : decode cX2_isOf 8 = .ok (.bipush 6, 2) := by decide +kernel
theorem dX2_isOf_10 : decode cX2_isOf 10 = .ok (.if_icmp .ge 32, 3) := by decide +kernel
theorem dX2_isOf_13 : decode cX2_isOf 13 = .ok (.iload_n 2, 1) := by decide +kernel
theorem dX2_isOf_14 : decode cX2_isOf 14 = .ok (.ifCond .lt 28, 3) := by decide +kernel
theorem dX2_isOf_17 : decode cX2_isOf 17 = .ok (.iload_n 2, 1) := by decide +kernel
theorem dX2_isOf_18 : decode cX2_isOf 18 = .ok (.bipush 6, 2) := by decide +kernel
theorem dX2_isOf_20 : decode cX2_isOf 20 = .ok (.if_icmp .ge 22, 3) := by decide +kernel
theorem dX2_isOf_23 : decode cX2_isOf 23 = .ok (.iload_n 2, 1) := by decide +kernel
theorem dX2_isOf_24 : decode cX2_isOf 24 = .ok (.iload_n 1, 1) := by decide +kernel
theorem dX2_isOf_25 : decode cX2_isOf 25 = .ok (.if_icmp .ne 5, 3) := by decide +kernel
theorem dX2_isOf_28 : decode cX2_isOf 28 = .ok (.iconst 1, 1) := by decide +kernel
theorem dX2_isOf_29 : decode cX2_isOf 29 = .ok (.ireturn, 1) := by decide +kernel
theorem dX2_isOf_30 : decode cX2_isOf 30 = .ok (.getstatic 30, 3) := by decide +kernel
theorem dX2_isOf_33 : decode cX2_isOf 33 = .ok (.iload_n 2, 1) := by decide +kernel
theorem dX2_isOf_34 : decode cX2_isOf 34 = .ok (.iaload, 1) := by decide +kernel
theorem dX2_isOf_35 : decode cX2_isOf 35 = .ok (.istore_n 2, 1) := by decide +kernel
theorem dX2_isOf_36 : decode cX2_isOf 36 = .ok (.iinc 3 1, 3) := by decide +kernel
theorem dX2_isOf_39 : decode cX2_isOf 39 = .ok (.goto (-32), 3) := by decide +kernel
theorem dX2_isOf_42 : decode cX2_isOf 42 = .ok (.iconst 0, 1) := by decide +kernel
theorem dX2_isOf_43 : decode cX2_isOf 43 = .ok (.ireturn, 1) := by decide +kernel
def wpX2_isOf_7 (C : CT) (I7 : Int32 → Int32 → Int32 → Mem → Prop) (i0 : Nat) (x1 : Int32) (x2 : Int32) (x3 : Int32) (V : Mem) (Q : Option AV → Mem → Prop) : Prop :=
  ((6 ≤ x3 → Q (some (aI 0)) V) ∧ (¬ 6 ≤ x3 → ((x2 < 0 → Q (some (aI 0)) V) ∧ (¬ x2 < 0 → ((6 ≤ x2 → Q (some (aI 0)) V) ∧ (¬ 6 ≤ x2 → ((¬ x2 = x1 → (∃ j_1 : Nat, x2 = nI j_1 ∧ j_1 < 6 ∧ (∀ z_2 : Int32, z_2 = (abI j_1) → I7 x1 z_2 (x3 + 1) V))) ∧ (x2 = x1 → Q (some (aI 1)) V))))))))
set_option maxRecDepth 10000 in
theorem okX2_isOf_7 {d : Nat} {P : Option AV → Mem → Prop} {I7 : Int32 → Int32 → Int32 → Mem → Prop} (i0 : Nat) (h_i0 : i0 < 29) (x1 : Int32) (x2 : Int32) (x3 : Int32)  (V : Mem) (hk7 : ∀ (x1 : Int32) (x2 : Int32) (x3 : Int32), ∀ (V : Mem), I7 x1 x2 x3 V → Gq (Kp (d + 1) mX2_isOf UX P) UX cX2_isOf 4 RX2 7 [(0, aR 3 i0), (1, aI x1), (2, aI x2), (3, aI x3)] [] V) (h : wpX2_isOf_7 (Cl UX d) I7 i0 x1 x2 x3 V P) : Gq (Kp (d + 1) mX2_isOf UX P) UX cX2_isOf 4 RX2 7 [(0, aR 3 i0), (1, aI x1), (2, aI x2), (3, aI x3)] [] V := by
  unfold wpX2_isOf_7 at h
  refine go_iload_n (q := 3) dX2_isOf_7 rfl rfl ?_
  refine go_bipush (v := 6) dX2_isOf_8 (by decide) ?_
  refine go_icmp_ge (tgt := 42) dX2_isOf_10 (by decide) (fun c_6 => ?_) (fun c_6 => ?_)
  · have h := h.1 c_6
    refine go_iconst (v := 0) dX2_isOf_42 (by decide) ?_
    exact go_bret rfl dX2_isOf_43 (by decide) h
  · have h := h.2 c_6
    refine go_iload_n (q := 2) dX2_isOf_13 rfl rfl ?_
    refine go_if_lt (tgt := 42) dX2_isOf_14 (by decide) (fun c_5 => ?_) (fun c_5 => ?_)
    · have h := h.1 c_5
      refine go_iconst (v := 0) dX2_isOf_42 (by decide) ?_
      exact go_bret rfl dX2_isOf_43 (by decide) h
    · have h := h.2 c_5
      refine go_iload_n (q := 2) dX2_isOf_17 rfl rfl ?_
      refine go_bipush (v := 6) dX2_isOf_18 (by decide) ?_
      refine go_icmp_ge (tgt := 42) dX2_isOf_20 (by decide) (fun c_4 => ?_) (fun c_4 => ?_)
      · have h := h.1 c_4
        refine go_iconst (v := 0) dX2_isOf_42 (by decide) ?_
        exact go_bret rfl dX2_isOf_43 (by decide) h
      · have h := h.2 c_4
        refine go_iload_n (q := 2) dX2_isOf_23 rfl rfl ?_
        refine go_iload_n (q := 1) dX2_isOf_24 rfl rfl ?_
        refine go_icmp_ne (tgt := 30) dX2_isOf_25 (by decide) (fun c_3 => ?_) (fun c_3 => ?_)
        · have h := h.1 c_3
          refine go_above dX2_isOf_30 rfl rfl ?_
          refine go_iload_n (q := 2) dX2_isOf_33 rfl rfl ?_
          obtain ⟨j_1, e_j_1, l_j_1, h⟩ := h
          refine go_abld (j := j_1) dX2_isOf_34 e_j_1 l_j_1 ?_
          refine nmI (fun z_2 e_z_2 => ?_)
          have h := h z_2 e_z_2
          refine go_istore_n (al1 := [(2, aI z_2), (0, aR 3 i0), (1, aI x1), (3, aI x3)]) dX2_isOf_35 rfl (by decide) rfl ?_
          refine go_iinc (q := 3) (y := 1) (al1 := [(3, aI (x3 + 1)), (2, aI z_2), (0, aR 3 i0), (1, aI x1)]) dX2_isOf_36 rfl (by decide) (by decide) rfl ?_
          refine go_goto (tgt := 7) dX2_isOf_39 (by decide) ?_
          refine go_sub (al1 := [(0, aR 3 i0), (1, aI x1), (2, aI z_2), (3, aI (x3 + 1))]) [2, 3, 1, 0] rfl ?_
          exact hk7 x1 z_2 (x3 + 1)  V h
        · have h := h.2 c_3
          refine go_iconst (v := 1) dX2_isOf_28 (by decide) ?_
          exact go_bret rfl dX2_isOf_29 (by decide) h
def wpX2_isOf_0 (C : CT) (I7 : Int32 → Int32 → Int32 → Mem → Prop) (i0 : Nat) (x1 : Int32) (V : Mem) (Q : Option AV → Mem → Prop) : Prop :=
  (∀ z_1 : Int32, z_1 = (V 3 i0 0) → I7 x1 z_1 0 V)
set_option maxRecDepth 10000 in
theorem okX2_isOf_0 {d : Nat} {P : Option AV → Mem → Prop} {I7 : Int32 → Int32 → Int32 → Mem → Prop} (i0 : Nat) (h_i0 : i0 < 29) (x1 : Int32)  (V : Mem) (hk7 : ∀ (x1 : Int32) (x2 : Int32) (x3 : Int32), ∀ (V : Mem), I7 x1 x2 x3 V → Gq (Kp (d + 1) mX2_isOf UX P) UX cX2_isOf 4 RX2 7 [(0, aR 3 i0), (1, aI x1), (2, aI x2), (3, aI x3)] [] V) (h : wpX2_isOf_0 (Cl UX d) I7 i0 x1 V P) : Gq (Kp (d + 1) mX2_isOf UX P) UX cX2_isOf 4 RX2 0 [(0, aR 3 i0), (1, aI x1)] [] V := by
  unfold wpX2_isOf_0 at h
  refine go_aload_n (q := 0) dX2_isOf_0 rfl rfl ?_
  refine go_geti fg_X2_9 dX2_isOf_1 (mX (n := 29) (by decide) rfl (by omega)) ?_
  refine nmI (fun z_1 e_z_1 => ?_)
  have h := h z_1 e_z_1
  refine go_istore_n (al1 := [(2, aI z_1), (0, aR 3 i0), (1, aI x1)]) dX2_isOf_4 rfl (by decide) rfl ?_
  refine go_iconst (v := 0) dX2_isOf_5 (by decide) ?_
  refine go_istore_n (al1 := [(3, aI 0), (2, aI z_1), (0, aR 3 i0), (1, aI x1)]) dX2_isOf_6 rfl (by decide) rfl ?_
  refine go_sub (al1 := [(0, aR 3 i0), (1, aI x1), (2, aI z_1), (3, aI 0)]) [2, 3, 1, 0] rfl ?_
  exact hk7 x1 z_1 0  V h
theorem clX2_isOf {d : Nat} {P : Option AV → Mem → Prop} {I7 : Int32 → Int32 → Int32 → Mem → Prop} (i0 : Nat) (h_i0 : i0 < 29) (x1 : Int32) (V : Mem) (hk7 : ∀ (x1 : Int32) (x2 : Int32) (x3 : Int32), ∀ (V : Mem), I7 x1 x2 x3 V → Gq (Kp (d + 1) mX2_isOf UX P) UX cX2_isOf 4 RX2 7 [(0, aR 3 i0), (1, aI x1), (2, aI x2), (3, aI x3)] [] V) (h : wpX2_isOf_0 (Cl UX d) I7 i0 x1 V P) : Cl UX (d + 1) mX2_isOf [aR 3 i0, aI x1] V P :=
  cl_of [(0, aR 3 i0), (1, aI x1)] (by decide) (fun _ => Nat.le_of_ble_eq_true rfl) (fun _ => rfl) (okX2_isOf_0 i0 h_i0 x1 V hk7 h)
theorem dX2_bears_0 : decode cX2_bears 0 = .ok (.aload_n 0, 1) := by decide +kernel
theorem dX2_bears_1 : decode cX2_bears 1 = .ok (.iconst 2, 1) := by decide +kernel
theorem dX2_bears_2 : decode cX2_bears 2 = .ok (.invokevirtual 34, 3) := by decide +kernel
theorem dX2_bears_5 : decode cX2_bears 5 = .ok (.ifCond .eq 7, 3) := by decide +kernel
theorem dX2_bears_8 : decode cX2_bears 8 = .ok (.sipush 9999, 3) := by decide +kernel
theorem dX2_bears_11 : decode cX2_bears 11 = .ok (.ireturn, 1) := by decide +kernel
theorem dX2_bears_12 : decode cX2_bears 12 = .ok (.aload_n 0, 1) := by decide +kernel
theorem dX2_bears_13 : decode cX2_bears 13 = .ok (.iconst 1, 1) := by decide +kernel
theorem dX2_bears_14 : decode cX2_bears 14 = .ok (.invokevirtual 34, 3) := by decide +kernel
theorem dX2_bears_17 : decode cX2_bears 17 = .ok (.ifCond .eq 13, 3) := by decide +kernel
theorem dX2_bears_20 : decode cX2_bears 20 = .ok (.bipush 10, 2) := by decide +kernel
theorem dX2_bears_22 : decode cX2_bears 22 = .ok (.aload_n 0, 1) := by decide +kernel
theorem dX2_bears_23 : decode cX2_bears 23 = .ok (.getfield 15, 3) := by decide +kernel
theorem dX2_bears_26 : decode cX2_bears 26 = .ok (.imul, 1) := by decide +kernel
theorem dX2_bears_27 : decode cX2_bears 27 = .ok (.goto 10, 3) := by decide +kernel
theorem dX2_bears_30 : decode cX2_bears 30 = .ok (.bipush 50, 2) := by decide +kernel
theorem dX2_bears_32 : decode cX2_bears 32 = .ok (.aload_n 0, 1) := by decide +kernel
theorem dX2_bears_33 : decode cX2_bears 33 = .ok (.getfield 15, 3) := by decide +kernel
theorem dX2_bears_36 : decode cX2_bears 36 = .ok (.imul, 1) := by decide +kernel
theorem dX2_bears_37 : decode cX2_bears 37 = .ok (.ireturn, 1) := by decide +kernel
def wpX2_bears_0 (C : CT)  (i0 : Nat)  (V : Mem) (Q : Option AV → Mem → Prop) : Prop :=
  (cI C mX2_isOf [aR 3 i0, aI 2] V (fun x_2 V_1 => ((x_2 = 0 → (cI C mX2_isOf [aR 3 i0, aI 1] V_1 (fun x_4 V_3 => ((x_4 = 0 → Q (some (aI (50 * (V_3 3 i0 1)))) V_3) ∧ (¬ x_4 = 0 → Q (some (aI (10 * (V_3 3 i0 1)))) V_3))))) ∧ (¬ x_2 = 0 → Q (some (aI 9999)) V_1))))
set_option maxRecDepth 10000 in
theorem okX2_bears_0 {d : Nat} {P : Option AV → Mem → Prop}  (i0 : Nat) (h_i0 : i0 < 29)   (V : Mem)  (h : wpX2_bears_0 (Cl UX d)  i0  V P) : Gq (Kp (d + 1) mX2_bears UX P) UX cX2_bears 1 RX2 0 [(0, aR 3 i0)] [] V := by
  unfold wpX2_bears_0 at h
  refine go_aload_n (q := 0) dX2_bears_0 rfl rfl ?_
  refine go_iconst (v := 2) dX2_bears_1 (by decide) ?_
  refine go_cVI (As := [aI 2]) (st := []) (r := 3) (i := i0) mv_X2_isOf dX2_bears_2 ml_X2_34 (hr_Kp (Nat.le_refl d)) rfl rfl (mX (n := 29) (by decide) rfl (by omega)) rfl rfl (Nat.le_of_ble_eq_true rfl) h (fun x_2 V_1 h => ?_)
  refine go_if_eq (tgt := 12) dX2_bears_5 (by decide) (fun c_6 => ?_) (fun c_6 => ?_)
  · have h := h.1 c_6
    refine go_aload_n (q := 0) dX2_bears_12 rfl rfl ?_
    refine go_iconst (v := 1) dX2_bears_13 (by decide) ?_
    refine go_cVI (As := [aI 1]) (st := []) (r := 3) (i := i0) mv_X2_isOf dX2_bears_14 ml_X2_34 (hr_Kp (Nat.le_refl d)) rfl rfl (mX (n := 29) (by decide) rfl (by omega)) rfl rfl (Nat.le_of_ble_eq_true rfl) h (fun x_4 V_3 h => ?_)
    refine go_if_eq (tgt := 30) dX2_bears_17 (by decide) (fun c_5 => ?_) (fun c_5 => ?_)
    · have h := h.1 c_5
      refine go_bipush (v := 50) dX2_bears_30 (by decide) ?_
      refine go_aload_n (q := 0) dX2_bears_32 rfl rfl ?_
      refine go_geti fg_X2_15 dX2_bears_33 (mX (n := 29) (by decide) rfl (by omega)) ?_
      refine go_imul dX2_bears_36 ?_
      exact go_iret rfl dX2_bears_37 h
    · have h := h.2 c_5
      refine go_bipush (v := 10) dX2_bears_20 (by decide) ?_
      refine go_aload_n (q := 0) dX2_bears_22 rfl rfl ?_
      refine go_geti fg_X2_15 dX2_bears_23 (mX (n := 29) (by decide) rfl (by omega)) ?_
      refine go_imul dX2_bears_26 ?_
      refine go_goto (tgt := 37) dX2_bears_27 (by decide) ?_
      exact go_iret rfl dX2_bears_37 h
  · have h := h.2 c_6
    refine go_sipush (v := 9999) dX2_bears_8 (by decide) ?_
    exact go_iret rfl dX2_bears_11 h
theorem clX2_bears {d : Nat} {P : Option AV → Mem → Prop}  (i0 : Nat) (h_i0 : i0 < 29)  (V : Mem)  (h : wpX2_bears_0 (Cl UX d)  i0  V P) : Cl UX (d + 1) mX2_bears [aR 3 i0] V P :=
  cl_of [(0, aR 3 i0)] (by decide) (fun _ => Nat.le_of_ble_eq_true rfl) (fun _ => rfl) (okX2_bears_0 i0 h_i0  V  h)
theorem dX2_worth_0 : decode cX2_worth 0 = .ok (.aload_n 0, 1) := by decide +kernel
theorem dX2_worth_1 : decode cX2_worth 1 = .ok (.getfield 9, 3) := by decide +kernel
theorem dX2_worth_4 : decode cX2_worth 4 = .ok (.tableswitch 73 1 5 #[36, 52, 43, 60, 70], 36) := by decide +kernel
theorem dX2_worth_40 : decode cX2_worth 40 = .ok (.aload_n 0, 1) := by decide +kernel
theorem dX2_worth_41 : decode cX2_worth 41 = .ok (.getfield 15, 3) := by decide +kernel
theorem dX2_worth_44 : decode cX2_worth 44 = .ok (.iconst 3, 1) := by decide +kernel
theorem dX2_worth_45 : decode cX2_worth 45 = .ok (.iadd, 1) := by decide +kernel
theorem dX2_worth_46 : decode cX2_worth 46 = .ok (.ireturn, 1) := by decide +kernel
theorem dX2_worth_47 : decode cX2_worth 47 = .ok (.iconst 2, 1) := by decide +kernel
theorem dX2_worth_48 : decode cX2_worth 48 = .ok (.aload_n 0, 1) := by decide +kernel
theorem dX2_worth_49 : decode cX2_worth 49 = .ok (.getfield 15, 3) := by decide +kernel
theorem dX2_worth_52 : decode cX2_worth 52 = .ok (.iconst 3, 1) := by decide +kernel
theorem dX2_worth_53 : decode cX2_worth 53 = .ok (.iadd, 1) := by decide +kernel
theorem dX2_worth_54 : decode cX2_worth 54 = .ok (.imul, 1) := by decide +kernel
theorem dX2_worth_55 : decode cX2_worth 55 = .ok (.ireturn, 1) := by decide +kernel
theorem dX2_worth_56 : decode cX2_worth 56 = .ok (.bipush 20, 2) := by decide +kernel
theorem dX2_worth_58 : decode cX2_worth 58 = .ok (.aload_n 0, 1) := by decide +kernel
theorem dX2_worth_59 : decode cX2_worth 59 = .ok (.getfield 15, 3) := by decide +kernel
theorem dX2_worth_62 : decode cX2_worth 62 = .ok (.isub, 1) := by decide +kernel
theorem dX2_worth_63 : decode cX2_worth 63 = .ok (.ireturn, 1) := by decide +kernel
theorem dX2_worth_64 : decode cX2_worth 64 = .ok (.bipush 20, 2) := by decide +kernel
theorem dX2_worth_66 : decode cX2_worth 66 = .ok (.aload_n 0, 1) := by decide +kernel
theorem dX2_worth_67 : decode cX2_worth 67 = .ok (.getfield 15, 3) := by decide +kernel
theorem dX2_worth_70 : decode cX2_worth 70 = .ok (.isub, 1) := by decide +kernel
theorem dX2_worth_71 : decode cX2_worth 71 = .ok (.iconst 2, 1) := by decide +kernel
theorem dX2_worth_72 : decode cX2_worth 72 = .ok (.isub, 1) := by decide +kernel
theorem dX2_worth_73 : decode cX2_worth 73 = .ok (.ireturn, 1) := by decide +kernel
theorem dX2_worth_74 : decode cX2_worth 74 = .ok (.bipush 30, 2) := by decide +kernel
theorem dX2_worth_76 : decode cX2_worth 76 = .ok (.ireturn, 1) := by decide +kernel
theorem dX2_worth_77 : decode cX2_worth 77 = .ok (.aload_n 0, 1) := by decide +kernel
theorem dX2_worth_78 : decode cX2_worth 78 = .ok (.getfield 15, 3) := by decide +kernel
theorem dX2_worth_81 : decode cX2_worth 81 = .ok (.ireturn, 1) := by decide +kernel
def wpX2_worth_0 (C : CT)  (i0 : Nat)  (V : Mem) (Q : Option AV → Mem → Prop) : Prop :=
  (((V 3 i0 0) = 1 → Q (some (aI ((V 3 i0 1) + 3))) V) ∧ ((V 3 i0 0) = 2 → Q (some (aI (20 - (V 3 i0 1)))) V) ∧ ((V 3 i0 0) = 3 → Q (some (aI (2 * ((V 3 i0 1) + 3)))) V) ∧ ((V 3 i0 0) = 4 → Q (some (aI ((20 - (V 3 i0 1)) - 2))) V) ∧ ((V 3 i0 0) = 5 → Q (some (aI 30)) V) ∧ (¬ (V 3 i0 0) = 1 ∧ ¬ (V 3 i0 0) = 2 ∧ ¬ (V 3 i0 0) = 3 ∧ ¬ (V 3 i0 0) = 4 ∧ ¬ (V 3 i0 0) = 5 → Q (some (aI (V 3 i0 1))) V))
set_option maxRecDepth 10000 in
theorem okX2_worth_0 {d : Nat} {P : Option AV → Mem → Prop}  (i0 : Nat) (h_i0 : i0 < 29)   (V : Mem)  (h : wpX2_worth_0 (Cl UX d)  i0  V P) : Gq (Kp (d + 1) mX2_worth UX P) UX cX2_worth 1 RX2 0 [(0, aR 3 i0)] [] V := by
  unfold wpX2_worth_0 at h
  refine go_aload_n (q := 0) dX2_worth_0 rfl rfl ?_
  refine go_geti fg_X2_9 dX2_worth_1 (mX (n := 29) (by decide) rfl (by omega)) ?_
  by_cases c4_0 : (V 3 i0 0) = 1
  · have h := h.1 c4_0
    refine go_tabC (z := 1) (off := 36) (tgt := 40) c4_0 dX2_worth_4 (by decide) (by decide) rfl (by decide) ?_
    refine go_aload_n (q := 0) dX2_worth_40 rfl rfl ?_
    refine go_geti fg_X2_15 dX2_worth_41 (mX (n := 29) (by decide) rfl (by omega)) ?_
    refine go_iconst (v := 3) dX2_worth_44 (by decide) ?_
    refine go_iadd dX2_worth_45 ?_
    exact go_iret rfl dX2_worth_46 h
  by_cases c4_1 : (V 3 i0 0) = 2
  · have h := h.2.1 c4_1
    refine go_tabC (z := 2) (off := 52) (tgt := 56) c4_1 dX2_worth_4 (by decide) (by decide) rfl (by decide) ?_
    refine go_bipush (v := 20) dX2_worth_56 (by decide) ?_
    refine go_aload_n (q := 0) dX2_worth_58 rfl rfl ?_
    refine go_geti fg_X2_15 dX2_worth_59 (mX (n := 29) (by decide) rfl (by omega)) ?_
    refine go_isub dX2_worth_62 ?_
    exact go_iret rfl dX2_worth_63 h
  by_cases c4_2 : (V 3 i0 0) = 3
  · have h := h.2.2.1 c4_2
    refine go_tabC (z := 3) (off := 43) (tgt := 47) c4_2 dX2_worth_4 (by decide) (by decide) rfl (by decide) ?_
    refine go_iconst (v := 2) dX2_worth_47 (by decide) ?_
    refine go_aload_n (q := 0) dX2_worth_48 rfl rfl ?_
    refine go_geti fg_X2_15 dX2_worth_49 (mX (n := 29) (by decide) rfl (by omega)) ?_
    refine go_iconst (v := 3) dX2_worth_52 (by decide) ?_
    refine go_iadd dX2_worth_53 ?_
    refine go_imul dX2_worth_54 ?_
    exact go_iret rfl dX2_worth_55 h
  by_cases c4_3 : (V 3 i0 0) = 4
  · have h := h.2.2.2.1 c4_3
    refine go_tabC (z := 4) (off := 60) (tgt := 64) c4_3 dX2_worth_4 (by decide) (by decide) rfl (by decide) ?_
    refine go_bipush (v := 20) dX2_worth_64 (by decide) ?_
    refine go_aload_n (q := 0) dX2_worth_66 rfl rfl ?_
    refine go_geti fg_X2_15 dX2_worth_67 (mX (n := 29) (by decide) rfl (by omega)) ?_
    refine go_isub dX2_worth_70 ?_
    refine go_iconst (v := 2) dX2_worth_71 (by decide) ?_
    refine go_isub dX2_worth_72 ?_
    exact go_iret rfl dX2_worth_73 h
  by_cases c4_4 : (V 3 i0 0) = 5
  · have h := h.2.2.2.2.1 c4_4
    refine go_tabC (z := 5) (off := 70) (tgt := 74) c4_4 dX2_worth_4 (by decide) (by decide) rfl (by decide) ?_
    refine go_bipush (v := 30) dX2_worth_74 (by decide) ?_
    exact go_iret rfl dX2_worth_76 h
  have h := h.2.2.2.2.2 ⟨c4_0, c4_1, c4_2, c4_3, c4_4⟩
  have q_c4_0 := lv_neT c4_0 (show (1 : Int32).toInt = 1 from rfl)
  have q_c4_1 := lv_neT c4_1 (show (2 : Int32).toInt = 2 from rfl)
  have q_c4_2 := lv_neT c4_2 (show (3 : Int32).toInt = 3 from rfl)
  have q_c4_3 := lv_neT c4_3 (show (4 : Int32).toInt = 4 from rfl)
  have q_c4_4 := lv_neT c4_4 (show (5 : Int32).toInt = 5 from rfl)
  refine go_tabOut (tgt := 77) dX2_worth_4 (by omega) (by decide) ?_
  refine go_aload_n (q := 0) dX2_worth_77 rfl rfl ?_
  refine go_geti fg_X2_15 dX2_worth_78 (mX (n := 29) (by decide) rfl (by omega)) ?_
  exact go_iret rfl dX2_worth_81 h
theorem clX2_worth {d : Nat} {P : Option AV → Mem → Prop}  (i0 : Nat) (h_i0 : i0 < 29)  (V : Mem)  (h : wpX2_worth_0 (Cl UX d)  i0  V P) : Cl UX (d + 1) mX2_worth [aR 3 i0] V P :=
  cl_of [(0, aR 3 i0)] (by decide) (fun _ => Nat.le_of_ble_eq_true rfl) (fun _ => rfl) (okX2_worth_0 i0 h_i0  V  h)
theorem dX2_takeWater_0 : decode cX2_takeWater 0 = .ok (.iconst 0, 1) := by decide +kernel
theorem dX2_takeWater_1 : decode cX2_takeWater 1 = .ok (.aload_n 0, 1) := by decide +kernel
theorem dX2_takeWater_2 : decode cX2_takeWater 2 = .ok (.getfield 24, 3) := by decide +kernel
theorem dX2_takeWater_5 : decode cX2_takeWater 5 = .ok (.iload_n 1, 1) := by decide +kernel
theorem dX2_takeWater_6 : decode cX2_takeWater 6 = .ok (.iadd, 1) := by decide +kernel
theorem dX2_takeWater_7 : decode cX2_takeWater 7 = .ok (.aload_n 0, 1) := by decide +kernel
theorem dX2_takeWater_8 : decode cX2_takeWater 8 = .ok (.getfield 21, 3) := by decide +kernel
theorem dX2_takeWater_11 : decode cX2_takeWater 11 = .ok (.isub, 1) := by decide +kernel
theorem dX2_takeWater_12 : decode cX2_takeWater 12 = .ok (.invokestatic 38, 3) := by decide +kernel
theorem dX2_takeWater_15 : decode cX2_takeWater 15 = .ok (.istore_n 2, 1) := by decide +kernel
theorem dX2_takeWater_16 : decode cX2_takeWater 16 = .ok (.aload_n 0, 1) := by decide +kernel
theorem dX2_takeWater_17 : decode cX2_takeWater 17 = .ok (.dup, 1) := by decide +kernel
theorem dX2_takeWater_18 : decode cX2_takeWater 18 = .ok (.getfield 24, 3) := by decide +kernel
theorem dX2_takeWater_21 : decode cX2_takeWater 21 = .ok (.iload_n 1, 1) := by decide +kernel
theorem dX2_takeWater_22 : decode cX2_takeWater 22 = .ok (.iload_n 2, 1) := by decide +kernel
theorem dX2_takeWater_23 : decode cX2_takeWater 23 = .ok (.isub, 1) := by decide +kernel
theorem dX2_takeWater_24 : decode cX2_takeWater 24 = .ok (.iadd, 1) := by decide +kernel
theorem dX2_takeWater_25 : decode cX2_takeWater 25 = .ok (.putfield 24, 3) := by decide +kernel
theorem dX2_takeWater_28 : decode cX2_takeWater 28 = .ok (.iload_n 2, 1) := by decide +kernel
theorem dX2_takeWater_29 : decode cX2_takeWater 29 = .ok (.ireturn, 1) := by decide +kernel
def wpX2_takeWater_0 (C : CT)  (i0 : Nat) (x1 : Int32) (V : Mem) (Q : Option AV → Mem → Prop) : Prop :=
  (∀ z_1 : Int32, z_1 = (if 0 < (((V 3 i0 4) + x1) - (V 3 i0 3)) then (((V 3 i0 4) + x1) - (V 3 i0 3)) else 0) → (∀ V_2 : Mem, V_2 = mu V 3 i0 4 ((V 3 i0 4) + (x1 - z_1)) → Q (some (aI z_1)) V_2))
set_option maxRecDepth 10000 in
theorem okX2_takeWater_0 {d : Nat} {P : Option AV → Mem → Prop}  (i0 : Nat) (h_i0 : i0 < 29) (x1 : Int32)  (V : Mem)  (h : wpX2_takeWater_0 (Cl UX d)  i0 x1 V P) : Gq (Kp (d + 1) mX2_takeWater UX P) UX cX2_takeWater 3 RX2 0 [(0, aR 3 i0), (1, aI x1)] [] V := by
  unfold wpX2_takeWater_0 at h
  refine go_iconst (v := 0) dX2_takeWater_0 (by decide) ?_
  refine go_aload_n (q := 0) dX2_takeWater_1 rfl rfl ?_
  refine go_geti fg_X2_24 dX2_takeWater_2 (mX (n := 29) (by decide) rfl (by omega)) ?_
  refine go_iload_n (q := 1) dX2_takeWater_5 rfl rfl ?_
  refine go_iadd dX2_takeWater_6 ?_
  refine go_aload_n (q := 0) dX2_takeWater_7 rfl rfl ?_
  refine go_geti fg_X2_21 dX2_takeWater_8 (mX (n := 29) (by decide) rfl (by omega)) ?_
  refine go_isub dX2_takeWater_11 ?_
  refine go_mmax ml_X2_38 mt_max1 mt_ini mt_max2 (hr_Kp (Nat.zero_le d)) (Nat.le_of_ble_eq_true rfl) dX2_takeWater_12 ?_
  refine nmI (fun z_1 e_z_1 => ?_)
  have h := h z_1 e_z_1
  refine go_istore_n (al1 := [(2, aI z_1), (0, aR 3 i0), (1, aI x1)]) dX2_takeWater_15 rfl (by decide) rfl ?_
  refine go_aload_n (q := 1) dX2_takeWater_16 rfl rfl ?_
  refine go_dup dX2_takeWater_17 rfl ?_
  refine go_geti fg_X2_24 dX2_takeWater_18 (mX (n := 29) (by decide) rfl (by omega)) ?_
  refine go_iload_n (q := 2) dX2_takeWater_21 rfl rfl ?_
  refine go_iload_n (q := 0) dX2_takeWater_22 rfl rfl ?_
  refine go_isub dX2_takeWater_23 ?_
  refine go_iadd dX2_takeWater_24 ?_
  refine go_puti fp_X2_24 dX2_takeWater_25 (mX (n := 29) (by decide) rfl (by omega)) ?_
  refine nmV (fun V_2 e_V_2 => ?_)
  have h := h V_2 e_V_2
  refine go_iload_n (q := 0) dX2_takeWater_28 rfl rfl ?_
  exact go_iret rfl dX2_takeWater_29 h
theorem clX2_takeWater {d : Nat} {P : Option AV → Mem → Prop}  (i0 : Nat) (h_i0 : i0 < 29) (x1 : Int32) (V : Mem)  (h : wpX2_takeWater_0 (Cl UX d)  i0 x1 V P) : Cl UX (d + 1) mX2_takeWater [aR 3 i0, aI x1] V P :=
  cl_of [(0, aR 3 i0), (1, aI x1)] (by decide) (fun _ => Nat.le_of_ble_eq_true rfl) (fun _ => rfl) (okX2_takeWater_0 i0 h_i0 x1 V  h)
theorem dX2_takeSnow_0 : decode cX2_takeSnow 0 = .ok (.iconst 0, 1) := by decide +kernel
theorem dX2_takeSnow_1 : decode cX2_takeSnow 1 = .ok (.aload_n 0, 1) := by decide +kernel
theorem dX2_takeSnow_2 : decode cX2_takeSnow 2 = .ok (.getfield 27, 3) := by decide +kernel
theorem dX2_takeSnow_5 : decode cX2_takeSnow 5 = .ok (.iload_n 1, 1) := by decide +kernel
theorem dX2_takeSnow_6 : decode cX2_takeSnow 6 = .ok (.iadd, 1) := by decide +kernel
theorem dX2_takeSnow_7 : decode cX2_takeSnow 7 = .ok (.sipush 9999, 3) := by decide +kernel
theorem dX2_takeSnow_10 : decode cX2_takeSnow 10 = .ok (.isub, 1) := by decide +kernel
theorem dX2_takeSnow_11 : decode cX2_takeSnow 11 = .ok (.invokestatic 38, 3) := by decide +kernel
theorem dX2_takeSnow_14 : decode cX2_takeSnow 14 = .ok (.istore_n 2, 1) := by decide +kernel
theorem dX2_takeSnow_15 : decode cX2_takeSnow 15 = .ok (.aload_n 0, 1) := by decide +kernel
theorem dX2_takeSnow_16 : decode cX2_takeSnow 16 = .ok (.dup, 1) := by decide +kernel
theorem dX2_takeSnow_17 : decode cX2_takeSnow 17 = .ok (.getfield 27, 3) := by decide +kernel
theorem dX2_takeSnow_20 : decode cX2_takeSnow 20 = .ok (.iload_n 1, 1) := by decide +kernel
theorem dX2_takeSnow_21 : decode cX2_takeSnow 21 = .ok (.iload_n 2, 1) := by decide +kernel
theorem dX2_takeSnow_22 : decode cX2_takeSnow 22 = .ok (.isub, 1) := by decide +kernel
theorem dX2_takeSnow_23 : decode cX2_takeSnow 23 = .ok (.iadd, 1) := by decide +kernel
theorem dX2_takeSnow_24 : decode cX2_takeSnow 24 = .ok (.putfield 27, 3) := by decide +kernel
theorem dX2_takeSnow_27 : decode cX2_takeSnow 27 = .ok (.iload_n 2, 1) := by decide +kernel
theorem dX2_takeSnow_28 : decode cX2_takeSnow 28 = .ok (.ireturn, 1) := by decide +kernel
def wpX2_takeSnow_0 (C : CT)  (i0 : Nat) (x1 : Int32) (V : Mem) (Q : Option AV → Mem → Prop) : Prop :=
  (∀ z_1 : Int32, z_1 = (if 0 < (((V 3 i0 5) + x1) - 9999) then (((V 3 i0 5) + x1) - 9999) else 0) → (∀ V_2 : Mem, V_2 = mu V 3 i0 5 ((V 3 i0 5) + (x1 - z_1)) → Q (some (aI z_1)) V_2))
set_option maxRecDepth 10000 in
theorem okX2_takeSnow_0 {d : Nat} {P : Option AV → Mem → Prop}  (i0 : Nat) (h_i0 : i0 < 29) (x1 : Int32)  (V : Mem)  (h : wpX2_takeSnow_0 (Cl UX d)  i0 x1 V P) : Gq (Kp (d + 1) mX2_takeSnow UX P) UX cX2_takeSnow 3 RX2 0 [(0, aR 3 i0), (1, aI x1)] [] V := by
  unfold wpX2_takeSnow_0 at h
  refine go_iconst (v := 0) dX2_takeSnow_0 (by decide) ?_
  refine go_aload_n (q := 0) dX2_takeSnow_1 rfl rfl ?_
  refine go_geti fg_X2_27 dX2_takeSnow_2 (mX (n := 29) (by decide) rfl (by omega)) ?_
  refine go_iload_n (q := 1) dX2_takeSnow_5 rfl rfl ?_
  refine go_iadd dX2_takeSnow_6 ?_
  refine go_sipush (v := 9999) dX2_takeSnow_7 (by decide) ?_
  refine go_isub dX2_takeSnow_10 ?_
  refine go_mmax ml_X2_38 mt_max1 mt_ini mt_max2 (hr_Kp (Nat.zero_le d)) (Nat.le_of_ble_eq_true rfl) dX2_takeSnow_11 ?_
  refine nmI (fun z_1 e_z_1 => ?_)
  have h := h z_1 e_z_1
  refine go_istore_n (al1 := [(2, aI z_1), (0, aR 3 i0), (1, aI x1)]) dX2_takeSnow_14 rfl (by decide) rfl ?_
  refine go_aload_n (q := 1) dX2_takeSnow_15 rfl rfl ?_
  refine go_dup dX2_takeSnow_16 rfl ?_
  refine go_geti fg_X2_27 dX2_takeSnow_17 (mX (n := 29) (by decide) rfl (by omega)) ?_
  refine go_iload_n (q := 2) dX2_takeSnow_20 rfl rfl ?_
  refine go_iload_n (q := 0) dX2_takeSnow_21 rfl rfl ?_
  refine go_isub dX2_takeSnow_22 ?_
  refine go_iadd dX2_takeSnow_23 ?_
  refine go_puti fp_X2_27 dX2_takeSnow_24 (mX (n := 29) (by decide) rfl (by omega)) ?_
  refine nmV (fun V_2 e_V_2 => ?_)
  have h := h V_2 e_V_2
  refine go_iload_n (q := 0) dX2_takeSnow_27 rfl rfl ?_
  exact go_iret rfl dX2_takeSnow_28 h
theorem clX2_takeSnow {d : Nat} {P : Option AV → Mem → Prop}  (i0 : Nat) (h_i0 : i0 < 29) (x1 : Int32) (V : Mem)  (h : wpX2_takeSnow_0 (Cl UX d)  i0 x1 V P) : Cl UX (d + 1) mX2_takeSnow [aR 3 i0, aI x1] V P :=
  cl_of [(0, aR 3 i0), (1, aI x1)] (by decide) (fun _ => Nat.le_of_ble_eq_true rfl) (fun _ => rfl) (okX2_takeSnow_0 i0 h_i0 x1 V  h)
theorem dX3_isMissing_0 : decode cX3_isMissing 0 = .ok (.aload_n 0, 1) := by decide +kernel
theorem dX3_isMissing_1 : decode cX3_isMissing 1 = .ok (.getfield 9, 3) := by decide +kernel
theorem dX3_isMissing_4 : decode cX3_isMissing 4 = .ok (.iconst (-1), 1) := by decide +kernel
theorem dX3_isMissing_5 : decode cX3_isMissing 5 = .ok (.if_icmp .ne 7, 3) := by decide +kernel
theorem dX3_isMissing_8 : decode cX3_isMissing 8 = .ok (.iconst 1, 1) := by decide +kernel
theorem dX3_isMissing_9 : decode cX3_isMissing 9 = .ok (.goto 4, 3) := by decide +kernel
theorem dX3_isMissing_12 : decode cX3_isMissing 12 = .ok (.iconst 0, 1) := by decide +kernel
theorem dX3_isMissing_13 : decode cX3_isMissing 13 = .ok (.ireturn, 1) := by decide +kernel
def wpX3_isMissing_0 (C : CT)  (i0 : Nat)  (V : Mem) (Q : Option AV → Mem → Prop) : Prop :=
  ((¬ (V 4 i0 0) = (-1) → Q (some (aI 0)) V) ∧ ((V 4 i0 0) = (-1) → Q (some (aI 1)) V))
set_option maxRecDepth 10000 in
theorem okX3_isMissing_0 {d : Nat} {P : Option AV → Mem → Prop}  (i0 : Nat) (h_i0 : i0 < 9)   (V : Mem)  (h : wpX3_isMissing_0 (Cl UX d)  i0  V P) : Gq (Kp (d + 1) mX3_isMissing UX P) UX cX3_isMissing 1 RX3 0 [(0, aR 4 i0)] [] V := by
  unfold wpX3_isMissing_0 at h
  refine go_aload_n (q := 0) dX3_isMissing_0 rfl rfl ?_
  refine go_geti fg_X3_9 dX3_isMissing_1 (mX (n := 9) (by decide) rfl (by omega)) ?_
  refine go_iconst (v := (-1)) dX3_isMissing_4 (by decide) ?_
  refine go_icmp_ne (tgt := 12) dX3_isMissing_5 (by decide) (fun c_1 => ?_) (fun c_1 => ?_)
  · have h := h.1 c_1
    refine go_iconst (v := 0) dX3_isMissing_12 (by decide) ?_
    exact go_bret rfl dX3_isMissing_13 (by decide) h
  · have h := h.2 c_1
    refine go_iconst (v := 1) dX3_isMissing_8 (by decide) ?_
    refine go_goto (tgt := 13) dX3_isMissing_9 (by decide) ?_
    exact go_bret rfl dX3_isMissing_13 (by decide) h
theorem clX3_isMissing {d : Nat} {P : Option AV → Mem → Prop}  (i0 : Nat) (h_i0 : i0 < 9)  (V : Mem)  (h : wpX3_isMissing_0 (Cl UX d)  i0  V P) : Cl UX (d + 1) mX3_isMissing [aR 4 i0] V P :=
  cl_of [(0, aR 4 i0)] (by decide) (fun _ => Nat.le_of_ble_eq_true rfl) (fun _ => rfl) (okX3_isMissing_0 i0 h_i0  V  h)
theorem dX3_lose_0 : decode cX3_lose 0 = .ok (.aload_n 0, 1) := by decide +kernel
theorem dX3_lose_1 : decode cX3_lose 1 = .ok (.iconst (-1), 1) := by decide +kernel
theorem dX3_lose_2 : decode cX3_lose 2 = .ok (.putfield 9, 3) := by decide +kernel
theorem dX3_lose_5 : decode cX3_lose 5 = .ok (.aload_n 0, 1) := by decide +kernel
theorem dX3_lose_6 : decode cX3_lose 6 = .ok (.iconst 0, 1) := by decide +kernel
theorem dX3_lose_7 : decode cX3_lose 7 = .ok (.putfield 15, 3) := by decide +kernel
theorem dX3_lose_10 : decode cX3_lose 10 = .ok (.return_, 1) := by decide +kernel
def wpX3_lose_0 (C : CT)  (i0 : Nat)  (V : Mem) (Q : Option AV → Mem → Prop) : Prop :=
  (∀ V_1 : Mem, V_1 = mu V 4 i0 0 (-1) → (∀ V_2 : Mem, V_2 = mu V_1 4 i0 1 0 → Q none V_2))
set_option maxRecDepth 10000 in
theorem okX3_lose_0 {d : Nat} {P : Option AV → Mem → Prop}  (i0 : Nat) (h_i0 : i0 < 9)   (V : Mem)  (h : wpX3_lose_0 (Cl UX d)  i0  V P) : Gq (Kp (d + 1) mX3_lose UX P) UX cX3_lose 1 RX3 0 [(0, aR 4 i0)] [] V := by
  unfold wpX3_lose_0 at h
  refine go_aload_n (q := 0) dX3_lose_0 rfl rfl ?_
  refine go_iconst (v := (-1)) dX3_lose_1 (by decide) ?_
  refine go_puti fp_X3_9 dX3_lose_2 (mX (n := 9) (by decide) rfl (by omega)) ?_
  refine nmV (fun V_1 e_V_1 => ?_)
  have h := h V_1 e_V_1
  refine go_aload_n (q := 0) dX3_lose_5 rfl rfl ?_
  refine go_iconst (v := 0) dX3_lose_6 (by decide) ?_
  refine go_puti fp_X3_15 dX3_lose_7 (mX (n := 9) (by decide) rfl (by omega)) ?_
  refine nmV (fun V_2 e_V_2 => ?_)
  have h := h V_2 e_V_2
  exact go_vret rfl dX3_lose_10 h
theorem clX3_lose {d : Nat} {P : Option AV → Mem → Prop}  (i0 : Nat) (h_i0 : i0 < 9)  (V : Mem)  (h : wpX3_lose_0 (Cl UX d)  i0  V P) : Cl UX (d + 1) mX3_lose [aR 4 i0] V P :=
  cl_of [(0, aR 4 i0)] (by decide) (fun _ => Nat.le_of_ble_eq_true rfl) (fun _ => rfl) (okX3_lose_0 i0 h_i0  V  h)
theorem dX3_begin_0 : decode cX3_begin 0 = .ok (.aload_n 0, 1) := by decide +kernel
theorem dX3_begin_1 : decode cX3_begin 1 = .ok (.iload_n 1, 1) := by decide +kernel
theorem dX3_begin_2 : decode cX3_begin 2 = .ok (.putfield 9, 3) := by decide +kernel
theorem dX3_begin_5 : decode cX3_begin 5 = .ok (.aload_n 0, 1) := by decide +kernel
theorem dX3_begin_6 : decode cX3_begin 6 = .ok (.iload_n 2, 1) := by decide +kernel
theorem dX3_begin_7 : decode cX3_begin 7 = .ok (.putfield 15, 3) := by decide +kernel
theorem dX3_begin_10 : decode cX3_begin 10 = .ok (.iconst 0, 1) := by decide +kernel
theorem dX3_begin_11 : decode cX3_begin 11 = .ok (.istore_n 3, 1) := by decide +kernel
theorem dX3_begin_12 : decode cX3_begin 12 = .ok (.iload_n 3, 1) := by decide +kernel
theorem dX3_begin_13 : decode cX3_begin 13 = .ok (.bipush 24, 2) := by decide +kernel
theorem dX3_begin_15 : decode cX3_begin 15 = .ok (.if_icmp .ge 16, 3) := by decide +kernel
theorem dX3_begin_18 : decode cX3_begin 18 = .ok (.aload_n 0, 1) := by decide +kernel
theorem dX3_begin_19 : decode cX3_begin 19 = .ok (.getfield 18, 3) := by decide +kernel
theorem dX3_begin_22 : decode cX3_begin 22 = .ok (.iload_n 3, 1) := by decide +kernel
theorem dX3_begin_23 : decode cX3_begin 23 = .ok (.iconst 0, 1) := by decide +kernel
theorem dX3_begin_24 : decode cX3_begin 24 = .ok (.iastore, 1) := by decide +kernel
theorem dX3_begin_25 : decode cX3_begin 25 = .ok (.iinc 3 1, 3) := by decide +kernel
theorem dX3_begin_28 : decode cX3_begin 28 = .ok (.goto (-16), 3) := by decide +kernel
theorem dX3_begin_31 : decode cX3_begin 31 = .ok (.return_, 1) := by decide +kernel
def wpX3_begin_12 (C : CT) (I12 : Int32 → Int32 → Int32 → Mem → Prop) (i0 : Nat) (x1 : Int32) (x2 : Int32) (x3 : Int32) (V : Mem) (Q : Option AV → Mem → Prop) : Prop :=
  ((24 ≤ x3 → Q none V) ∧ (¬ 24 ≤ x3 → (∃ j_1 : Nat, x3 = nI j_1 ∧ j_1 < 24 ∧ (∀ V_2 : Mem, V_2 = mu V 23 i0 j_1 0 → I12 x1 x2 (x3 + 1) V_2))))
set_option maxRecDepth 10000 in
theorem okX3_begin_12 {d : Nat} {P : Option AV → Mem → Prop} {I12 : Int32 → Int32 → Int32 → Mem → Prop} (i0 : Nat) (h_i0 : i0 < 9) (x1 : Int32) (x2 : Int32) (x3 : Int32)  (V : Mem) (hk12 : ∀ (x1 : Int32) (x2 : Int32) (x3 : Int32), ∀ (V : Mem), I12 x1 x2 x3 V → Gq (Kp (d + 1) mX3_begin UX P) UX cX3_begin 4 RX3 12 [(0, aR 4 i0), (1, aI x1), (2, aI x2), (3, aI x3)] [] V) (h : wpX3_begin_12 (Cl UX d) I12 i0 x1 x2 x3 V P) : Gq (Kp (d + 1) mX3_begin UX P) UX cX3_begin 4 RX3 12 [(0, aR 4 i0), (1, aI x1), (2, aI x2), (3, aI x3)] [] V := by
  unfold wpX3_begin_12 at h
  refine go_iload_n (q := 3) dX3_begin_12 rfl rfl ?_
  refine go_bipush (v := 24) dX3_begin_13 (by decide) ?_
  refine go_icmp_ge (tgt := 31) dX3_begin_15 (by decide) (fun c_3 => ?_) (fun c_3 => ?_)
  · have h := h.1 c_3
    exact go_vret rfl dX3_begin_31 h
  · have h := h.2 c_3
    refine go_aload_n (q := 0) dX3_begin_18 rfl rfl ?_
    refine go_getr fg_X3_18 dX3_begin_19 (mX (n := 9) (by decide) rfl (by omega)) ?_
    refine go_iload_n (q := 3) dX3_begin_22 rfl rfl ?_
    refine go_iconst (v := 0) dX3_begin_23 (by decide) ?_
    obtain ⟨j_1, e_j_1, l_j_1, h⟩ := h
    refine go_iast (r := 23) (n := 24) (j := j_1) rfl (by decide) dX3_begin_24 (mX (n := 9) (by decide) rfl (by omega)) e_j_1 l_j_1 ?_
    refine nmV (fun V_2 e_V_2 => ?_)
    have h := h V_2 e_V_2
    refine go_iinc (q := 3) (y := 1) (al1 := [(3, aI (x3 + 1)), (0, aR 4 i0), (1, aI x1), (2, aI x2)]) dX3_begin_25 rfl (by decide) (by decide) rfl ?_
    refine go_goto (tgt := 12) dX3_begin_28 (by decide) ?_
    refine go_sub (al1 := [(0, aR 4 i0), (1, aI x1), (2, aI x2), (3, aI (x3 + 1))]) [1, 2, 3, 0] rfl ?_
    exact hk12 x1 x2 (x3 + 1)  V_2 h
def wpX3_begin_0 (C : CT) (I12 : Int32 → Int32 → Int32 → Mem → Prop) (i0 : Nat) (x1 : Int32) (x2 : Int32) (V : Mem) (Q : Option AV → Mem → Prop) : Prop :=
  (∀ V_1 : Mem, V_1 = mu V 4 i0 0 x1 → (∀ V_2 : Mem, V_2 = mu V_1 4 i0 1 x2 → I12 x1 x2 0 V_2))
set_option maxRecDepth 10000 in
theorem okX3_begin_0 {d : Nat} {P : Option AV → Mem → Prop} {I12 : Int32 → Int32 → Int32 → Mem → Prop} (i0 : Nat) (h_i0 : i0 < 9) (x1 : Int32) (x2 : Int32)  (V : Mem) (hk12 : ∀ (x1 : Int32) (x2 : Int32) (x3 : Int32), ∀ (V : Mem), I12 x1 x2 x3 V → Gq (Kp (d + 1) mX3_begin UX P) UX cX3_begin 4 RX3 12 [(0, aR 4 i0), (1, aI x1), (2, aI x2), (3, aI x3)] [] V) (h : wpX3_begin_0 (Cl UX d) I12 i0 x1 x2 V P) : Gq (Kp (d + 1) mX3_begin UX P) UX cX3_begin 4 RX3 0 [(0, aR 4 i0), (1, aI x1), (2, aI x2)] [] V := by
  unfold wpX3_begin_0 at h
  refine go_aload_n (q := 0) dX3_begin_0 rfl rfl ?_
  refine go_iload_n (q := 1) dX3_begin_1 rfl rfl ?_
  refine go_puti fp_X3_9 dX3_begin_2 (mX (n := 9) (by decide) rfl (by omega)) ?_
  refine nmV (fun V_1 e_V_1 => ?_)
  have h := h V_1 e_V_1
  refine go_aload_n (q := 0) dX3_begin_5 rfl rfl ?_
  refine go_iload_n (q := 2) dX3_begin_6 rfl rfl ?_
  refine go_puti fp_X3_15 dX3_begin_7 (mX (n := 9) (by decide) rfl (by omega)) ?_
  refine nmV (fun V_2 e_V_2 => ?_)
  have h := h V_2 e_V_2
  refine go_iconst (v := 0) dX3_begin_10 (by decide) ?_
  refine go_istore_n (al1 := [(3, aI 0), (0, aR 4 i0), (1, aI x1), (2, aI x2)]) dX3_begin_11 rfl (by decide) rfl ?_
  refine go_sub (al1 := [(0, aR 4 i0), (1, aI x1), (2, aI x2), (3, aI 0)]) [1, 2, 3, 0] rfl ?_
  exact hk12 x1 x2 0  V_2 h
theorem clX3_begin {d : Nat} {P : Option AV → Mem → Prop} {I12 : Int32 → Int32 → Int32 → Mem → Prop} (i0 : Nat) (h_i0 : i0 < 9) (x1 : Int32) (x2 : Int32) (V : Mem) (hk12 : ∀ (x1 : Int32) (x2 : Int32) (x3 : Int32), ∀ (V : Mem), I12 x1 x2 x3 V → Gq (Kp (d + 1) mX3_begin UX P) UX cX3_begin 4 RX3 12 [(0, aR 4 i0), (1, aI x1), (2, aI x2), (3, aI x3)] [] V) (h : wpX3_begin_0 (Cl UX d) I12 i0 x1 x2 V P) : Cl UX (d + 1) mX3_begin [aR 4 i0, aI x1, aI x2] V P :=
  cl_of [(0, aR 4 i0), (1, aI x1), (2, aI x2)] (by decide) (fun _ => Nat.le_of_ble_eq_true rfl) (fun _ => rfl) (okX3_begin_0 i0 h_i0 x1 x2 V hk12 h)
theorem dX3_become_0 : decode cX3_become 0 = .ok (.aload_n 0, 1) := by decide +kernel
theorem dX3_become_1 : decode cX3_become 1 = .ok (.aload_n 1, 1) := by decide +kernel
theorem dX3_become_2 : decode cX3_become 2 = .ok (.getfield 9, 3) := by decide +kernel
theorem dX3_become_5 : decode cX3_become 5 = .ok (.putfield 9, 3) := by decide +kernel
theorem dX3_become_8 : decode cX3_become 8 = .ok (.aload_n 0, 1) := by decide +kernel
theorem dX3_become_9 : decode cX3_become 9 = .ok (.aload_n 1, 1) := by decide +kernel
theorem dX3_become_10 : decode cX3_become 10 = .ok (.getfield 15, 3) := by decide +kernel
theorem dX3_become_13 : decode cX3_become 13 = .ok (.putfield 15, 3) := by decide +kernel
theorem dX3_become_16 : decode cX3_become 16 = .ok (.aload_n 1, 1) := by decide +kernel
theorem dX3_become_17 : decode cX3_become 17 = .ok (.getfield 18, 3) := by decide +kernel
theorem dX3_become_20 : decode cX3_become 20 = .ok (.iconst 0, 1) := by decide +kernel
theorem dX3_become_21 : decode cX3_become 21 = .ok (.aload_n 0, 1) := by decide +kernel
theorem dX3_become_22 : decode cX3_become 22 = .ok (.getfield 18, 3) := by decide +kernel
theorem dX3_become_25 : decode cX3_become 25 = .ok (.iconst 0, 1) := by decide +kernel
theorem dX3_become_26 : decode cX3_become 26 = .ok (.bipush 24, 2) := by decide +kernel
theorem dX3_become_28 : decode cX3_become 28 = .ok (.invokestatic 22, 3) := by decide +kernel
theorem dX3_become_31 : decode cX3_become 31 = .ok (.return_, 1) := by decide +kernel
def wpX3_become_0 (C : CT)  (i0 : Nat) (n1 : Nat)  (V : Mem) (Q : Option AV → Mem → Prop) : Prop :=
  (∀ V_1 : Mem, V_1 = mu V 4 i0 0 (V 4 n1 0) → (∀ V_2 : Mem, V_2 = mu V_1 4 i0 1 (V_1 4 n1 1) → (∃ j_3 j_4 j_5 : Nat, 0 = nI j_3 ∧ 0 = nI j_4 ∧ 24 = nI j_5 ∧ j_3 + j_5 ≤ 24 ∧ j_4 + j_5 ≤ 24 ∧ (∀ V_6 : Mem, V_6 = ma V_2 23 i0 (va_cpy (V_2 23 n1) (V_2 23 i0) j_3 j_4 j_5) → Q none V_6))))
set_option maxRecDepth 10000 in
theorem okX3_become_0 {d : Nat} {P : Option AV → Mem → Prop}  (i0 : Nat) (n1 : Nat) (h_i0 : i0 < 9) (h_n1 : n1 < 9)   (V : Mem)  (h : wpX3_become_0 (Cl UX d)  i0 n1  V P) : Gq (Kp (d + 1) mX3_become UX P) UX cX3_become 2 RX3 0 [(0, aR 4 i0), (1, aR 4 n1)] [] V := by
  unfold wpX3_become_0 at h
  refine go_aload_n (q := 0) dX3_become_0 rfl rfl ?_
  refine go_aload_n (q := 1) dX3_become_1 rfl rfl ?_
  refine go_geti fg_X3_9 dX3_become_2 (mX (n := 9) (by decide) rfl (by omega)) ?_
  refine go_puti fp_X3_9 dX3_become_5 (mX (n := 9) (by decide) rfl (by omega)) ?_
  refine nmV (fun V_1 e_V_1 => ?_)
  have h := h V_1 e_V_1
  refine go_aload_n (q := 0) dX3_become_8 rfl rfl ?_
  refine go_aload_n (q := 1) dX3_become_9 rfl rfl ?_
  refine go_geti fg_X3_15 dX3_become_10 (mX (n := 9) (by decide) rfl (by omega)) ?_
  refine go_puti fp_X3_15 dX3_become_13 (mX (n := 9) (by decide) rfl (by omega)) ?_
  refine nmV (fun V_2 e_V_2 => ?_)
  have h := h V_2 e_V_2
  refine go_aload_n (q := 1) dX3_become_16 rfl rfl ?_
  refine go_getr fg_X3_18 dX3_become_17 (mX (n := 9) (by decide) rfl (by omega)) ?_
  refine go_iconst (v := 0) dX3_become_20 (by decide) ?_
  refine go_aload_n (q := 0) dX3_become_21 rfl rfl ?_
  refine go_getr fg_X3_18 dX3_become_22 (mX (n := 9) (by decide) rfl (by omega)) ?_
  refine go_iconst (v := 0) dX3_become_25 (by decide) ?_
  refine go_bipush (v := 24) dX3_become_26 (by decide) ?_
  obtain ⟨j_3, j_4, j_5, ea_j_3, eb_j_3, ec_j_3, la_j_3, lb_j_3, h⟩ := h
  refine go_copy (r0 := 23) (r1 := 23) (n0 := 24) (n1 := 24) ml_X3_22 ac_1 ac_2 ac_3 (hr_Kp (Nat.zero_le d)) rfl rfl (by decide) (by decide) dX3_become_28 (mX (n := 9) (by decide) rfl (by omega)) (mX (n := 9) (by decide) rfl (by omega)) rfl ea_j_3 eb_j_3 ec_j_3 la_j_3 lb_j_3 ?_
  refine nmV (fun V_6 e_V_6 => ?_)
  have h := h V_6 e_V_6
  exact go_vret rfl dX3_become_31 h
theorem clX3_become {d : Nat} {P : Option AV → Mem → Prop}  (i0 : Nat) (n1 : Nat) (h_i0 : i0 < 9) (h_n1 : n1 < 9)  (V : Mem)  (h : wpX3_become_0 (Cl UX d)  i0 n1  V P) : Cl UX (d + 1) mX3_become [aR 4 i0, aR 4 n1] V P :=
  cl_of [(0, aR 4 i0), (1, aR 4 n1)] (by decide) (fun _ => Nat.le_of_ble_eq_true rfl) (fun _ => rfl) (okX3_become_0 i0 n1 h_i0 h_n1  V  h)
theorem dX3_hasPlace_0 : decode cX3_hasPlace 0 = .ok (.iload_n 1, 1) := by decide +kernel
theorem dX3_hasPlace_1 : decode cX3_hasPlace 1 = .ok (.ifCond .lt 15, 3) := by decide +kernel
theorem dX3_hasPlace_4 : decode cX3_hasPlace 4 = .ok (.iload_n 1, 1) := by decide +kernel
theorem dX3_hasPlace_5 : decode cX3_hasPlace 5 = .ok (.aload_n 0, 1) := by decide +kernel
theorem dX3_hasPlace_6 : decode cX3_hasPlace 6 = .ok (.getfield 15, 3) := by decide +kernel
theorem dX3_hasPlace_9 : decode cX3_hasPlace 9 = .ok (.if_icmp .ge 7, 3) := by decide +kernel
theorem dX3_hasPlace_12 : decode cX3_hasPlace 12 = .ok (.iconst 1, 1) := by decide +kernel
theorem dX3_hasPlace_13 : decode cX3_hasPlace 13 = .ok (.goto 4, 3) := by decide +kernel
theorem dX3_hasPlace_16 : decode cX3_hasPlace 16 = .ok (.iconst 0, 1) := by decide +kernel
theorem dX3_hasPlace_17 : decode cX3_hasPlace 17 = .ok (.ireturn, 1) := by decide +kernel
def wpX3_hasPlace_0 (C : CT)  (i0 : Nat) (x1 : Int32) (V : Mem) (Q : Option AV → Mem → Prop) : Prop :=
  ((x1 < 0 → Q (some (aI 0)) V) ∧ (¬ x1 < 0 → (((V 4 i0 1) ≤ x1 → Q (some (aI 0)) V) ∧ (¬ (V 4 i0 1) ≤ x1 → Q (some (aI 1)) V))))
set_option maxRecDepth 10000 in
theorem okX3_hasPlace_0 {d : Nat} {P : Option AV → Mem → Prop}  (i0 : Nat) (h_i0 : i0 < 9) (x1 : Int32)  (V : Mem)  (h : wpX3_hasPlace_0 (Cl UX d)  i0 x1 V P) : Gq (Kp (d + 1) mX3_hasPlace UX P) UX cX3_hasPlace 2 RX3 0 [(0, aR 4 i0), (1, aI x1)] [] V := by
  unfold wpX3_hasPlace_0 at h
  refine go_iload_n (q := 1) dX3_hasPlace_0 rfl rfl ?_
  refine go_if_lt (tgt := 16) dX3_hasPlace_1 (by decide) (fun c_2 => ?_) (fun c_2 => ?_)
  · have h := h.1 c_2
    refine go_iconst (v := 0) dX3_hasPlace_16 (by decide) ?_
    exact go_bret rfl dX3_hasPlace_17 (by decide) h
  · have h := h.2 c_2
    refine go_iload_n (q := 1) dX3_hasPlace_4 rfl rfl ?_
    refine go_aload_n (q := 0) dX3_hasPlace_5 rfl rfl ?_
    refine go_geti fg_X3_15 dX3_hasPlace_6 (mX (n := 9) (by decide) rfl (by omega)) ?_
    refine go_icmp_ge (tgt := 16) dX3_hasPlace_9 (by decide) (fun c_1 => ?_) (fun c_1 => ?_)
    · have h := h.1 c_1
      refine go_iconst (v := 0) dX3_hasPlace_16 (by decide) ?_
      exact go_bret rfl dX3_hasPlace_17 (by decide) h
    · have h := h.2 c_1
      refine go_iconst (v := 1) dX3_hasPlace_12 (by decide) ?_
      refine go_goto (tgt := 17) dX3_hasPlace_13 (by decide) ?_
      exact go_bret rfl dX3_hasPlace_17 (by decide) h
theorem clX3_hasPlace {d : Nat} {P : Option AV → Mem → Prop}  (i0 : Nat) (h_i0 : i0 < 9) (x1 : Int32) (V : Mem)  (h : wpX3_hasPlace_0 (Cl UX d)  i0 x1 V P) : Cl UX (d + 1) mX3_hasPlace [aR 4 i0, aI x1] V P :=
  cl_of [(0, aR 4 i0), (1, aI x1)] (by decide) (fun _ => Nat.le_of_ble_eq_true rfl) (fun _ => rfl) (okX3_hasPlace_0 i0 h_i0 x1 V  h)
theorem dX3_hasPlaces_0 : decode cX3_hasPlaces 0 = .ok (.iload_n 2, 1) := by decide +kernel
theorem dX3_hasPlaces_1 : decode cX3_hasPlaces 1 = .ok (.ifCond .lt 29, 3) := by decide +kernel
theorem dX3_hasPlaces_4 : decode cX3_hasPlaces 4 = .ok (.iload_n 1, 1) := by decide +kernel
theorem dX3_hasPlaces_5 : decode cX3_hasPlaces 5 = .ok (.ifCond .lt 25, 3) := by decide +kernel
theorem dX3_hasPlaces_8 : decode cX3_hasPlaces 8 = .ok (.iload_n 1, 1) := by decide +kernel
theorem dX3_hasPlaces_9 : decode cX3_hasPlaces 9 = .ok (.aload_n 0, 1) := by decide +kernel
theorem dX3_hasPlaces_10 : decode cX3_hasPlaces 10 = .ok (.getfield 15, 3) := by decide +kernel
theorem dX3_hasPlaces_13 : decode cX3_hasPlaces 13 = .ok (.if_icmp .gt 17, 3) := by decide +kernel
theorem dX3_hasPlaces_16 : decode cX3_hasPlaces 16 = .ok (.iload_n 2, 1) := by decide +kernel
theorem dX3_hasPlaces_17 : decode cX3_hasPlaces 17 = .ok (.aload_n 0, 1) := by decide +kernel
theorem dX3_hasPlaces_18 : decode cX3_hasPlaces 18 = .ok (.getfield 15, 3) := by decide +kernel
theorem dX3_hasPlaces_21 : decode cX3_hasPlaces 21 = .ok (.iload_n 1, 1) := by decide +kernel
theorem dX3_hasPlaces_22 : decode cX3_hasPlaces 22 = .ok (.isub, 1) := by decide +kernel
theorem dX3_hasPlaces_23 : decode cX3_hasPlaces 23 = .ok (.if_icmp .gt 7, 3) := by decide +kernel
theorem dX3_hasPlaces_26 : decode cX3_hasPlaces 26 = .ok (.iconst 1, 1) := by decide +kernel
theorem dX3_hasPlaces_27 : decode cX3_hasPlaces 27 = .ok (.goto 4, 3) := by decide +kernel
theorem dX3_hasPlaces_30 : decode cX3_hasPlaces 30 = .ok (.iconst 0, 1) := by decide +kernel
theorem dX3_hasPlaces_31 : decode cX3_hasPlaces 31 = .ok (.ireturn, 1) := by decide +kernel
def wpX3_hasPlaces_0 (C : CT)  (i0 : Nat) (x1 : Int32) (x2 : Int32) (V : Mem) (Q : Option AV → Mem → Prop) : Prop :=
  ((x2 < 0 → Q (some (aI 0)) V) ∧ (¬ x2 < 0 → ((x1 < 0 → Q (some (aI 0)) V) ∧ (¬ x1 < 0 → (((V 4 i0 1) < x1 → Q (some (aI 0)) V) ∧ (¬ (V 4 i0 1) < x1 → ((((V 4 i0 1) - x1) < x2 → Q (some (aI 0)) V) ∧ (¬ ((V 4 i0 1) - x1) < x2 → Q (some (aI 1)) V))))))))
set_option maxRecDepth 10000 in
theorem okX3_hasPlaces_0 {d : Nat} {P : Option AV → Mem → Prop}  (i0 : Nat) (h_i0 : i0 < 9) (x1 : Int32) (x2 : Int32)  (V : Mem)  (h : wpX3_hasPlaces_0 (Cl UX d)  i0 x1 x2 V P) : Gq (Kp (d + 1) mX3_hasPlaces UX P) UX cX3_hasPlaces 3 RX3 0 [(0, aR 4 i0), (1, aI x1), (2, aI x2)] [] V := by
  unfold wpX3_hasPlaces_0 at h
  refine go_iload_n (q := 2) dX3_hasPlaces_0 rfl rfl ?_
  refine go_if_lt (tgt := 30) dX3_hasPlaces_1 (by decide) (fun c_4 => ?_) (fun c_4 => ?_)
  · have h := h.1 c_4
    refine go_iconst (v := 0) dX3_hasPlaces_30 (by decide) ?_
    exact go_bret rfl dX3_hasPlaces_31 (by decide) h
  · have h := h.2 c_4
    refine go_iload_n (q := 1) dX3_hasPlaces_4 rfl rfl ?_
    refine go_if_lt (tgt := 30) dX3_hasPlaces_5 (by decide) (fun c_3 => ?_) (fun c_3 => ?_)
    · have h := h.1 c_3
      refine go_iconst (v := 0) dX3_hasPlaces_30 (by decide) ?_
      exact go_bret rfl dX3_hasPlaces_31 (by decide) h
    · have h := h.2 c_3
      refine go_iload_n (q := 1) dX3_hasPlaces_8 rfl rfl ?_
      refine go_aload_n (q := 0) dX3_hasPlaces_9 rfl rfl ?_
      refine go_geti fg_X3_15 dX3_hasPlaces_10 (mX (n := 9) (by decide) rfl (by omega)) ?_
      refine go_icmp_gt (tgt := 30) dX3_hasPlaces_13 (by decide) (fun c_2 => ?_) (fun c_2 => ?_)
      · have h := h.1 c_2
        refine go_iconst (v := 0) dX3_hasPlaces_30 (by decide) ?_
        exact go_bret rfl dX3_hasPlaces_31 (by decide) h
      · have h := h.2 c_2
        refine go_iload_n (q := 2) dX3_hasPlaces_16 rfl rfl ?_
        refine go_aload_n (q := 0) dX3_hasPlaces_17 rfl rfl ?_
        refine go_geti fg_X3_15 dX3_hasPlaces_18 (mX (n := 9) (by decide) rfl (by omega)) ?_
        refine go_iload_n (q := 1) dX3_hasPlaces_21 rfl rfl ?_
        refine go_isub dX3_hasPlaces_22 ?_
        refine go_icmp_gt (tgt := 30) dX3_hasPlaces_23 (by decide) (fun c_1 => ?_) (fun c_1 => ?_)
        · have h := h.1 c_1
          refine go_iconst (v := 0) dX3_hasPlaces_30 (by decide) ?_
          exact go_bret rfl dX3_hasPlaces_31 (by decide) h
        · have h := h.2 c_1
          refine go_iconst (v := 1) dX3_hasPlaces_26 (by decide) ?_
          refine go_goto (tgt := 31) dX3_hasPlaces_27 (by decide) ?_
          exact go_bret rfl dX3_hasPlaces_31 (by decide) h
theorem clX3_hasPlaces {d : Nat} {P : Option AV → Mem → Prop}  (i0 : Nat) (h_i0 : i0 < 9) (x1 : Int32) (x2 : Int32) (V : Mem)  (h : wpX3_hasPlaces_0 (Cl UX d)  i0 x1 x2 V P) : Cl UX (d + 1) mX3_hasPlaces [aR 4 i0, aI x1, aI x2] V P :=
  cl_of [(0, aR 4 i0), (1, aI x1), (2, aI x2)] (by decide) (fun _ => Nat.le_of_ble_eq_true rfl) (fun _ => rfl) (okX3_hasPlaces_0 i0 h_i0 x1 x2 V  h)
theorem dX3_isNumber_0 : decode cX3_isNumber 0 = .ok (.aload_n 0, 1) := by decide +kernel
theorem dX3_isNumber_1 : decode cX3_isNumber 1 = .ok (.getfield 18, 3) := by decide +kernel
theorem dX3_isNumber_4 : decode cX3_isNumber 4 = .ok (.iload_n 1, 1) := by decide +kernel
theorem dX3_isNumber_5 : decode cX3_isNumber 5 = .ok (.iaload, 1) := by decide +kernel
theorem dX3_isNumber_6 : decode cX3_isNumber 6 = .ok (.ldc 28, 2) := by decide +kernel
theorem dX3_isNumber_8 : decode cX3_isNumber 8 = .ok (.if_icmp .eq 7, 3) := by decide +kernel
theorem dX3_isNumber_11 : decode cX3_isNumber 11 = .ok (.iconst 1, 1) := by decide +kernel
theorem dX3_isNumber_12 : decode cX3_isNumber 12 = .ok (.goto 4, 3) := by decide +kernel
theorem dX3_isNumber_15 : decode cX3_isNumber 15 = .ok (.iconst 0, 1) := by decide +kernel
theorem dX3_isNumber_16 : decode cX3_isNumber 16 = .ok (.ireturn, 1) := by decide +kernel
def wpX3_isNumber_0 (C : CT)  (i0 : Nat) (x1 : Int32) (V : Mem) (Q : Option AV → Mem → Prop) : Prop :=
  (∃ j_1 : Nat, x1 = nI j_1 ∧ j_1 < 24 ∧ (((V 23 i0 j_1) = (-1000000005) → Q (some (aI 0)) V) ∧ (¬ (V 23 i0 j_1) = (-1000000005) → Q (some (aI 1)) V)))
set_option maxRecDepth 10000 in
theorem okX3_isNumber_0 {d : Nat} {P : Option AV → Mem → Prop}  (i0 : Nat) (h_i0 : i0 < 9) (x1 : Int32)  (V : Mem)  (h : wpX3_isNumber_0 (Cl UX d)  i0 x1 V P) : Gq (Kp (d + 1) mX3_isNumber UX P) UX cX3_isNumber 2 RX3 0 [(0, aR 4 i0), (1, aI x1)] [] V := by
  unfold wpX3_isNumber_0 at h
  refine go_aload_n (q := 0) dX3_isNumber_0 rfl rfl ?_
  refine go_getr fg_X3_18 dX3_isNumber_1 (mX (n := 9) (by decide) rfl (by omega)) ?_
  refine go_iload_n (q := 1) dX3_isNumber_4 rfl rfl ?_
  obtain ⟨j_1, e_j_1, l_j_1, h⟩ := h
  refine go_iald (r := 23) (n := 24) (j := j_1) rfl (by decide) dX3_isNumber_5 (mX (n := 9) (by decide) rfl (by omega)) e_j_1 l_j_1 ?_
  refine go_ldc dX3_isNumber_6 ct_X3_28 ?_
  refine go_icmp_eq (tgt := 15) dX3_isNumber_8 (by decide) (fun c_2 => ?_) (fun c_2 => ?_)
  · have h := h.1 c_2
    refine go_iconst (v := 0) dX3_isNumber_15 (by decide) ?_
    exact go_bret rfl dX3_isNumber_16 (by decide) h
  · have h := h.2 c_2
    refine go_iconst (v := 1) dX3_isNumber_11 (by decide) ?_
    refine go_goto (tgt := 16) dX3_isNumber_12 (by decide) ?_
    exact go_bret rfl dX3_isNumber_16 (by decide) h
theorem clX3_isNumber {d : Nat} {P : Option AV → Mem → Prop}  (i0 : Nat) (h_i0 : i0 < 9) (x1 : Int32) (V : Mem)  (h : wpX3_isNumber_0 (Cl UX d)  i0 x1 V P) : Cl UX (d + 1) mX3_isNumber [aR 4 i0, aI x1] V P :=
  cl_of [(0, aR 4 i0), (1, aI x1)] (by decide) (fun _ => Nat.le_of_ble_eq_true rfl) (fun _ => rfl) (okX3_isNumber_0 i0 h_i0 x1 V  h)
theorem dX3_write_0 : decode cX3_write 0 = .ok (.aload_n 0, 1) := by decide +kernel
theorem dX3_write_1 : decode cX3_write 1 = .ok (.getfield 18, 3) := by decide +kernel
theorem dX3_write_4 : decode cX3_write 4 = .ok (.iload_n 1, 1) := by decide +kernel
theorem dX3_write_5 : decode cX3_write 5 = .ok (.iload_n 2, 1) := by decide +kernel
theorem dX3_write_6 : decode cX3_write 6 = .ok (.iastore, 1) := by decide +kernel
theorem dX3_write_7 : decode cX3_write 7 = .ok (.iconst 1, 1) := by decide +kernel
theorem dX3_write_8 : decode cX3_write 8 = .ok (.ireturn, 1) := by decide +kernel
def wpX3_write_0 (C : CT)  (i0 : Nat) (x1 : Int32) (x2 : Int32) (V : Mem) (Q : Option AV → Mem → Prop) : Prop :=
  (∃ j_1 : Nat, x1 = nI j_1 ∧ j_1 < 24 ∧ (∀ V_2 : Mem, V_2 = mu V 23 i0 j_1 x2 → Q (some (aI 1)) V_2))
set_option maxRecDepth 10000 in
theorem okX3_write_0 {d : Nat} {P : Option AV → Mem → Prop}  (i0 : Nat) (h_i0 : i0 < 9) (x1 : Int32) (x2 : Int32)  (V : Mem)  (h : wpX3_write_0 (Cl UX d)  i0 x1 x2 V P) : Gq (Kp (d + 1) mX3_write UX P) UX cX3_write 3 RX3 0 [(0, aR 4 i0), (1, aI x1), (2, aI x2)] [] V := by
  unfold wpX3_write_0 at h
  refine go_aload_n (q := 0) dX3_write_0 rfl rfl ?_
  refine go_getr fg_X3_18 dX3_write_1 (mX (n := 9) (by decide) rfl (by omega)) ?_
  refine go_iload_n (q := 1) dX3_write_4 rfl rfl ?_
  refine go_iload_n (q := 2) dX3_write_5 rfl rfl ?_
  obtain ⟨j_1, e_j_1, l_j_1, h⟩ := h
  refine go_iast (r := 23) (n := 24) (j := j_1) rfl (by decide) dX3_write_6 (mX (n := 9) (by decide) rfl (by omega)) e_j_1 l_j_1 ?_
  refine nmV (fun V_2 e_V_2 => ?_)
  have h := h V_2 e_V_2
  refine go_iconst (v := 1) dX3_write_7 (by decide) ?_
  exact go_iret rfl dX3_write_8 h
theorem clX3_write {d : Nat} {P : Option AV → Mem → Prop}  (i0 : Nat) (h_i0 : i0 < 9) (x1 : Int32) (x2 : Int32) (V : Mem)  (h : wpX3_write_0 (Cl UX d)  i0 x1 x2 V P) : Cl UX (d + 1) mX3_write [aR 4 i0, aI x1, aI x2] V P :=
  cl_of [(0, aR 4 i0), (1, aI x1), (2, aI x2)] (by decide) (fun _ => Nat.le_of_ble_eq_true rfl) (fun _ => rfl) (okX3_write_0 i0 h_i0 x1 x2 V  h)
theorem dX4_findingFor_0 : decode cX4_findingFor 0 = .ok (.aload_n 0, 1) := by decide +kernel
theorem dX4_findingFor_1 : decode cX4_findingFor 1 = .ok (.getfield 9, 3) := by decide +kernel
theorem dX4_findingFor_4 : decode cX4_findingFor 4 = .ok (.ifCond .ne 6, 3) := by decide +kernel
theorem dX4_findingFor_7 : decode cX4_findingFor 7 = .ok (.ldc 32, 2) := by decide +kernel
theorem dX4_findingFor_9 : decode cX4_findingFor 9 = .ok (.ireturn, 1) := by decide +kernel
theorem dX4_findingFor_10 : decode cX4_findingFor 10 = .ok (.aload_n 0, 1) := by decide +kernel
theorem dX4_findingFor_11 : decode cX4_findingFor 11 = .ok (.getfield 9, 3) := by decide +kernel
theorem dX4_findingFor_14 : decode cX4_findingFor 14 = .ok (.iload_n 1, 1) := by decide +kernel
theorem dX4_findingFor_15 : decode cX4_findingFor 15 = .ok (.if_icmp .ne 7, 3) := by decide +kernel
theorem dX4_findingFor_18 : decode cX4_findingFor 18 = .ok (.iconst 0, 1) := by decide +kernel
theorem dX4_findingFor_19 : decode cX4_findingFor 19 = .ok (.goto 5, 3) := by decide +kernel
theorem dX4_findingFor_22 : decode cX4_findingFor 22 = .ok (.ldc 33, 2) := by decide +kernel
theorem dX4_findingFor_24 : decode cX4_findingFor 24 = .ok (.ireturn, 1) := by decide +kernel
def wpX4_findingFor_0 (C : CT)  (i0 : Nat) (x1 : Int32) (V : Mem) (Q : Option AV → Mem → Prop) : Prop :=
  ((¬ (V 5 i0 0) = 0 → ((¬ (V 5 i0 0) = x1 → Q (some (aI (-1000000012))) V) ∧ ((V 5 i0 0) = x1 → Q (some (aI 0)) V))) ∧ ((V 5 i0 0) = 0 → Q (some (aI (-1000000011))) V))
set_option maxRecDepth 10000 in
theorem okX4_findingFor_0 {d : Nat} {P : Option AV → Mem → Prop}  (i0 : Nat) (h_i0 : i0 < 5) (x1 : Int32)  (V : Mem)  (h : wpX4_findingFor_0 (Cl UX d)  i0 x1 V P) : Gq (Kp (d + 1) mX4_findingFor UX P) UX cX4_findingFor 2 RX4 0 [(0, aR 5 i0), (1, aI x1)] [] V := by
  unfold wpX4_findingFor_0 at h
  refine go_aload_n (q := 0) dX4_findingFor_0 rfl rfl ?_
  refine go_geti fg_X4_9 dX4_findingFor_1 (mX (n := 5) (by decide) rfl (by omega)) ?_
  refine go_if_ne (tgt := 10) dX4_findingFor_4 (by decide) (fun c_2 => ?_) (fun c_2 => ?_)
  · have h := h.1 c_2
    refine go_aload_n (q := 0) dX4_findingFor_10 rfl rfl ?_
    refine go_geti fg_X4_9 dX4_findingFor_11 (mX (n := 5) (by decide) rfl (by omega)) ?_
    refine go_iload_n (q := 1) dX4_findingFor_14 rfl rfl ?_
    refine go_icmp_ne (tgt := 22) dX4_findingFor_15 (by decide) (fun c_1 => ?_) (fun c_1 => ?_)
    · have h := h.1 c_1
      refine go_ldc dX4_findingFor_22 ct_X4_33 ?_
      exact go_iret rfl dX4_findingFor_24 h
    · have h := h.2 c_1
      refine go_iconst (v := 0) dX4_findingFor_18 (by decide) ?_
      refine go_goto (tgt := 24) dX4_findingFor_19 (by decide) ?_
      exact go_iret rfl dX4_findingFor_24 h
  · have h := h.2 c_2
    refine go_ldc dX4_findingFor_7 ct_X4_32 ?_
    exact go_iret rfl dX4_findingFor_9 h
theorem clX4_findingFor {d : Nat} {P : Option AV → Mem → Prop}  (i0 : Nat) (h_i0 : i0 < 5) (x1 : Int32) (V : Mem)  (h : wpX4_findingFor_0 (Cl UX d)  i0 x1 V P) : Cl UX (d + 1) mX4_findingFor [aR 5 i0, aI x1] V P :=
  cl_of [(0, aR 5 i0), (1, aI x1)] (by decide) (fun _ => Nat.le_of_ble_eq_true rfl) (fun _ => rfl) (okX4_findingFor_0 i0 h_i0 x1 V  h)
