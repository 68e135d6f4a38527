theorem dX5_become_0 : decode cX5_become 0 = .ok (.aload_n 0, 1) := by decide +kernel
theorem dX5_become_1 : decode cX5_become 1 = .ok (.aload_n 1, 1) := by decide +kernel
theorem dX5_become_2 : decode cX5_become 2 = .ok (.getfield 32, 3) := by decide +kernel
theorem dX5_become_5 : decode cX5_become 5 = .ok (.putfield 32, 3) := by decide +kernel
theorem dX5_become_8 : decode cX5_become 8 = .ok (.iconst 0, 1) := by decide +kernel
theorem dX5_become_9 : decode cX5_become 9 = .ok (.istore_n 2, 1) := by decide +kernel
theorem dX5_become_10 : decode cX5_become 10 = .ok (.iload_n 2, 1) := by decide +kernel
theorem dX5_become_11 : decode cX5_become 11 = .ok (.aload_n 0, 1) := by decide +kernel
theorem dX5_become_12 : decode cX5_become 12 = .ok (.getfield 32, 3) := by decide +kernel
theorem dX5_become_15 : decode cX5_become 15 = .ok (.if_icmp .ge 24, 3) := by decide +kernel
theorem dX5_become_18 : decode cX5_become 18 = .ok (.aload_n 0, 1) := by decide +kernel
theorem dX5_become_19 : decode cX5_become 19 = .ok (.getfield 11, 3) := by decide +kernel
theorem dX5_become_22 : decode cX5_become 22 = .ok (.iload_n 2, 1) := by decide +kernel
theorem dX5_become_23 : decode cX5_become 23 = .ok (.aaload, 1) := by decide +kernel
theorem dX5_become_24 : decode cX5_become 24 = .ok (.aload_n 1, 1) := by decide +kernel
theorem dX5_become_25 : decode cX5_become 25 = .ok (.getfield 11, 3) := by decide +kernel
theorem dX5_become_28 : decode cX5_become 28 = .ok (.iload_n 2, 1) := by decide +kernel
theorem dX5_become_29 : decode cX5_become 29 = .ok (.aaload, 1) := by decide +kernel
theorem dX5_become_30 : decode cX5_become 30 = .ok (.invokevirtual 67, 3) := by decide +kernel
theorem dX5_become_33 : decode cX5_become 33 = .ok (.iinc 2 1, 3) := by decide +kernel
theorem dX5_become_36 : decode cX5_become 36 = .ok (.goto (-26), 3) := by decide +kernel
theorem dX5_become_39 : decode cX5_become 39 = .ok (.aload_n 1, 1) := by decide +kernel
theorem dX5_become_40 : decode cX5_become 40 = .ok (.getfield 17, 3) := by decide +kernel
theorem dX5_become_43 : decode cX5_become 43 = .ok (.iconst 0, 1) := by decide +kernel
theorem dX5_become_44 : decode cX5_become 44 = .ok (.aload_n 0, 1) := by decide +kernel
theorem dX5_become_45 : decode cX5_become 45 = .ok (.getfield 17, 3) := by decide +kernel
theorem dX5_become_48 : decode cX5_become 48 = .ok (.iconst 0, 1) := by decide +kernel
theorem dX5_become_49 : decode cX5_become 49 = .ok (.bipush 24, 2) := by decide +kernel
theorem dX5_become_51 : decode cX5_become 51 = .ok (.invokestatic 71, 3) := by decide +kernel
theorem dX5_become_54 : decode cX5_become 54 = .ok (.aload_n 1, 1) := by decide +kernel
theorem dX5_become_55 : decode cX5_become 55 = .ok (.getfield 21, 3) := by decide +kernel
theorem dX5_become_58 : decode cX5_become 58 = .ok (.iconst 0, 1) := by decide +kernel
theorem dX5_become_59 : decode cX5_become 59 = .ok (.aload_n 0, 1) := by decide +kernel
theorem dX5_become_60 : decode cX5_become 60 = .ok (.getfield 21, 3) := by decide +kernel
theorem dX5_become_63 : decode cX5_become 63 = .ok (.iconst 0, 1) := by decide +kernel
theorem dX5_become_64 : decode cX5_become 64 = .ok (.bipush 24, 2) := by decide +kernel
theorem dX5_become_66 : decode cX5_become 66 = .ok (.invokestatic 71, 3) := by decide +kernel
theorem dX5_become_69 : decode cX5_become 69 = .ok (.aload_n 1, 1) := by decide +kernel
theorem dX5_become_70 : decode cX5_become 70 = .ok (.getfield 25, 3) := by decide +kernel
theorem dX5_become_73 : decode cX5_become 73 = .ok (.iconst 0, 1) := by decide +kernel
theorem dX5_become_74 : decode cX5_become 74 = .ok (.aload_n 0, 1) := by decide +kernel
theorem dX5_become_75 : decode cX5_become 75 = .ok (.getfield 25, 3) := by decide +kernel
theorem dX5_become_78 : decode cX5_become 78 = .ok (.iconst 0, 1) := by decide +kernel
theorem dX5_become_79 : decode cX5_become 79 = .ok (.iconst 3, 1) := by decide +kernel
theorem dX5_become_80 : decode cX5_become 80 = .ok (.invokestatic 71, 3) := by decide +kernel
theorem dX5_become_83 : decode cX5_become 83 = .ok (.aload_n 0, 1) := by decide +kernel
theorem dX5_become_84 : decode cX5_become 84 = .ok (.aload_n 1, 1) := by decide +kernel
theorem dX5_become_85 : decode cX5_become 85 = .ok (.getfield 28, 3) := by decide +kernel
theorem dX5_become_88 : decode cX5_become 88 = .ok (.putfield 28, 3) := by decide +kernel
theorem dX5_become_91 : decode cX5_become 91 = .ok (.aload_n 0, 1) := by decide +kernel
theorem dX5_become_92 : decode cX5_become 92 = .ok (.aload_n 1, 1) := by decide +kernel
theorem dX5_become_93 : decode cX5_become 93 = .ok (.getfield 35, 3) := by decide +kernel
theorem dX5_become_96 : decode cX5_become 96 = .ok (.putfield 35, 3) := by decide +kernel
theorem dX5_become_99 : decode cX5_become 99 = .ok (.aload_n 0, 1) := by decide +kernel
theorem dX5_become_100 : decode cX5_become 100 = .ok (.aload_n 1, 1) := by decide +kernel
theorem dX5_become_101 : decode cX5_become 101 = .ok (.getfield 38, 3) := by decide +kernel
theorem dX5_become_104 : decode cX5_become 104 = .ok (.putfield 38, 3) := by decide +kernel
theorem dX5_become_107 : decode cX5_become 107 = .ok (.aload_n 0, 1) := by decide +kernel
theorem dX5_become_108 : decode cX5_become 108 = .ok (.aload_n 1, 1) := by decide +kernel
theorem dX5_become_109 : decode cX5_become 109 = .ok (.getfield 41, 3) := by decide +kernel
theorem dX5_become_112 : decode cX5_become 112 = .ok (.putfield 41, 3) := by decide +kernel
theorem dX5_become_115 : decode cX5_become 115 = .ok (.aload_n 0, 1) := by decide +kernel
theorem dX5_become_116 : decode cX5_become 116 = .ok (.aload_n 1, 1) := by decide +kernel
theorem dX5_become_117 : decode cX5_become 117 = .ok (.getfield 44, 3) := by decide +kernel
theorem dX5_become_120 : decode cX5_become 120 = .ok (.putfield 44, 3) := by decide +kernel
theorem dX5_become_123 : decode cX5_become 123 = .ok (.aload_n 0, 1) := by decide +kernel
theorem dX5_become_124 : decode cX5_become 124 = .ok (.aload_n 1, 1) := by decide +kernel
theorem dX5_become_125 : decode cX5_become 125 = .ok (.getfield 47, 3) := by decide +kernel
theorem dX5_become_128 : decode cX5_become 128 = .ok (.putfield 47, 3) := by decide +kernel
theorem dX5_become_131 : decode cX5_become 131 = .ok (.aload_n 0, 1) := by decide +kernel
theorem dX5_become_132 : decode cX5_become 132 = .ok (.aload_n 1, 1) := by decide +kernel
theorem dX5_become_133 : decode cX5_become 133 = .ok (.getfield 50, 3) := by decide +kernel
theorem dX5_become_136 : decode cX5_become 136 = .ok (.putfield 50, 3) := by decide +kernel
theorem dX5_become_139 : decode cX5_become 139 = .ok (.aload_n 0, 1) := by decide +kernel
theorem dX5_become_140 : decode cX5_become 140 = .ok (.aload_n 1, 1) := by decide +kernel
theorem dX5_become_141 : decode cX5_become 141 = .ok (.getfield 53, 3) := by decide +kernel
theorem dX5_become_144 : decode cX5_become 144 = .ok (.putfield 53, 3) := by decide +kernel
theorem dX5_become_147 : decode cX5_become 147 = .ok (.aload_n 0, 1) := by decide +kernel
theorem dX5_become_148 : decode cX5_become 148 = .ok (.aload_n 1, 1) := by decide +kernel
theorem dX5_become_149 : decode cX5_become 149 = .ok (.getfield 56, 3) := by decide +kernel
theorem dX5_become_152 : decode cX5_become 152 = .ok (.putfield 56, 3) := by decide +kernel
theorem dX5_become_155 : decode cX5_become 155 = .ok (.aload_n 0, 1) := by decide +kernel
theorem dX5_become_156 : decode cX5_become 156 = .ok (.aload_n 1, 1) := by decide +kernel
theorem dX5_become_157 : decode cX5_become 157 = .ok (.getfield 59, 3) := by decide +kernel
theorem dX5_become_160 : decode cX5_become 160 = .ok (.putfield 59, 3) := by decide +kernel
theorem dX5_become_163 : decode cX5_become 163 = .ok (.return_, 1) := by decide +kernel
def wpX5_become_10 (C : CT) (I10 : Int32 → Mem → Prop) (i0 : Nat) (n1 : Nat) (x2 : Int32) (V : Mem) (Q : Option AV → Mem → Prop) : Prop :=
  (((V 2 i0 6) ≤ x2 → (∃ j_1 j_2 j_3 : Nat, 0 = nI j_1 ∧ 0 = nI j_2 ∧ 24 = nI j_3 ∧ j_1 + j_3 ≤ 24 ∧ j_2 + j_3 ≤ 24 ∧ (∀ V_4 : Mem, V_4 = ma V 14 i0 (va_cpy (V 14 n1) (V 14 i0) j_1 j_2 j_3) → (∃ j_5 j_6 j_7 : Nat, 0 = nI j_5 ∧ 0 = nI j_6 ∧ 24 = nI j_7 ∧ j_5 + j_7 ≤ 24 ∧ j_6 + j_7 ≤ 24 ∧ (∀ V_8 : Mem, V_8 = ma V_4 15 i0 (va_cpy (V_4 15 n1) (V_4 15 i0) j_5 j_6 j_7) → (∃ j_9 j_10 j_11 : Nat, 0 = nI j_9 ∧ 0 = nI j_10 ∧ 3 = nI j_11 ∧ j_9 + j_11 ≤ 3 ∧ j_10 + j_11 ≤ 3 ∧ (∀ V_12 : Mem, V_12 = ma V_8 16 i0 (va_cpy (V_8 16 n1) (V_8 16 i0) j_9 j_10 j_11) → (∀ V_13 : Mem, V_13 = mu V_12 2 i0 5 (V_12 2 n1 5) → (∀ V_14 : Mem, V_14 = mu V_13 2 i0 7 (V_13 2 n1 7) → (∀ V_15 : Mem, V_15 = mu V_14 2 i0 8 (V_14 2 n1 8) → (∀ V_16 : Mem, V_16 = mu V_15 2 i0 9 (V_15 2 n1 9) → (∀ V_17 : Mem, V_17 = mu V_16 2 i0 10 (V_16 2 n1 10) → (∀ V_18 : Mem, V_18 = mu V_17 2 i0 11 (V_17 2 n1 11) → (∀ V_19 : Mem, V_19 = mu V_18 2 i0 12 (V_18 2 n1 12) → (∀ V_20 : Mem, V_20 = mu V_19 2 i0 13 (V_19 2 n1 13) → (∀ V_21 : Mem, V_21 = mu V_20 2 i0 14 (V_20 2 n1 14) → (∀ V_22 : Mem, V_22 = mu V_21 2 i0 15 (V_21 2 n1 15) → Q none V_22))))))))))))))))) ∧ (¬ (V 2 i0 6) ≤ x2 → (∃ j_23 : Nat, x2 = nI j_23 ∧ j_23 < 8 ∧ (cV C mX2_become [aR 3 (8 * i0 + j_23), aR 3 (8 * n1 + j_23)] V (fun V_24 => I10 (x2 + 1) V_24)))))
set_option maxRecDepth 10000 in
theorem okX5_become_10 {d : Nat} {P : Option AV → Mem → Prop} {I10 : Int32 → Mem → Prop} (i0 : Nat) (n1 : Nat) (h_i0 : i0 < 3) (h_n1 : n1 < 3) (x2 : Int32)  (V : Mem) (hk10 : ∀ (x2 : Int32), ∀ (V : Mem), I10 x2 V → Gq (Kp (d + 1) mX5_become UX P) UX cX5_become 3 RX5 10 [(0, aR 2 i0), (1, aR 2 n1), (2, aI x2)] [] V) (h : wpX5_become_10 (Cl UX d) I10 i0 n1 x2 V P) : Gq (Kp (d + 1) mX5_become UX P) UX cX5_become 3 RX5 10 [(0, aR 2 i0), (1, aR 2 n1), (2, aI x2)] [] V := by
  unfold wpX5_become_10 at h
  refine go_iload_n (q := 2) dX5_become_10 rfl rfl ?_
  refine go_aload_n (q := 0) dX5_become_11 rfl rfl ?_
  refine go_geti fg_X5_32 dX5_become_12 (mX (n := 3) (by decide) rfl (by omega)) ?_
  refine go_icmp_ge (tgt := 39) dX5_become_15 (by decide) (fun c_25 => ?_) (fun c_25 => ?_)
  · have h := h.1 c_25
    refine go_aload_n (q := 1) dX5_become_39 rfl rfl ?_
    refine go_getr fg_X5_17 dX5_become_40 (mX (n := 3) (by decide) rfl (by omega)) ?_
    refine go_iconst (v := 0) dX5_become_43 (by decide) ?_
    refine go_aload_n (q := 0) dX5_become_44 rfl rfl ?_
    refine go_getr fg_X5_17 dX5_become_45 (mX (n := 3) (by decide) rfl (by omega)) ?_
    refine go_iconst (v := 0) dX5_become_48 (by decide) ?_
    refine go_bipush (v := 24) dX5_become_49 (by decide) ?_
    obtain ⟨j_1, j_2, j_3, ea_j_1, eb_j_1, ec_j_1, la_j_1, lb_j_1, h⟩ := h
    refine go_copy (r0 := 14) (r1 := 14) (n0 := 24) (n1 := 24) ml_X5_71 ac_1 ac_2 ac_3 (hr_Kp (Nat.zero_le d)) rfl rfl (by decide) (by decide) dX5_become_51 (mX (n := 3) (by decide) rfl (by omega)) (mX (n := 3) (by decide) rfl (by omega)) rfl ea_j_1 eb_j_1 ec_j_1 la_j_1 lb_j_1 ?_
    refine nmV (fun V_4 e_V_4 => ?_)
    have h := h V_4 e_V_4
    refine go_aload_n (q := 1) dX5_become_54 rfl rfl ?_
    refine go_getr fg_X5_21 dX5_become_55 (mX (n := 3) (by decide) rfl (by omega)) ?_
    refine go_iconst (v := 0) dX5_become_58 (by decide) ?_
    refine go_aload_n (q := 0) dX5_become_59 rfl rfl ?_
    refine go_getr fg_X5_21 dX5_become_60 (mX (n := 3) (by decide) rfl (by omega)) ?_
    refine go_iconst (v := 0) dX5_become_63 (by decide) ?_
    refine go_bipush (v := 24) dX5_become_64 (by decide) ?_
    obtain ⟨j_5, j_6, j_7, ea_j_5, eb_j_5, ec_j_5, la_j_5, lb_j_5, h⟩ := h
    refine go_copy (r0 := 15) (r1 := 15) (n0 := 24) (n1 := 24) ml_X5_71 ac_1 ac_2 ac_3 (hr_Kp (Nat.zero_le d)) rfl rfl (by decide) (by decide) dX5_become_66 (mX (n := 3) (by decide) rfl (by omega)) (mX (n := 3) (by decide) rfl (by omega)) rfl ea_j_5 eb_j_5 ec_j_5 la_j_5 lb_j_5 ?_
    refine nmV (fun V_8 e_V_8 => ?_)
    have h := h V_8 e_V_8
    refine go_aload_n (q := 1) dX5_become_69 rfl rfl ?_
    refine go_getr fg_X5_25 dX5_become_70 (mX (n := 3) (by decide) rfl (by omega)) ?_
    refine go_iconst (v := 0) dX5_become_73 (by decide) ?_
    refine go_aload_n (q := 0) dX5_become_74 rfl rfl ?_
    refine go_getr fg_X5_25 dX5_become_75 (mX (n := 3) (by decide) rfl (by omega)) ?_
    refine go_iconst (v := 0) dX5_become_78 (by decide) ?_
    refine go_iconst (v := 3) dX5_become_79 (by decide) ?_
    obtain ⟨j_9, j_10, j_11, ea_j_9, eb_j_9, ec_j_9, la_j_9, lb_j_9, h⟩ := h
    refine go_copy (r0 := 16) (r1 := 16) (n0 := 3) (n1 := 3) ml_X5_71 ac_1 ac_2 ac_3 (hr_Kp (Nat.zero_le d)) rfl rfl (by decide) (by decide) dX5_become_80 (mX (n := 3) (by decide) rfl (by omega)) (mX (n := 3) (by decide) rfl (by omega)) rfl ea_j_9 eb_j_9 ec_j_9 la_j_9 lb_j_9 ?_
    refine nmV (fun V_12 e_V_12 => ?_)
    have h := h V_12 e_V_12
    refine go_aload_n (q := 0) dX5_become_83 rfl rfl ?_
    refine go_aload_n (q := 1) dX5_become_84 rfl rfl ?_
    refine go_geti fg_X5_28 dX5_become_85 (mX (n := 3) (by decide) rfl (by omega)) ?_
    refine go_puti fp_X5_28 dX5_become_88 (mX (n := 3) (by decide) rfl (by omega)) ?_
    refine nmV (fun V_13 e_V_13 => ?_)
    have h := h V_13 e_V_13
    refine go_aload_n (q := 0) dX5_become_91 rfl rfl ?_
    refine go_aload_n (q := 1) dX5_become_92 rfl rfl ?_
    refine go_geti fg_X5_35 dX5_become_93 (mX (n := 3) (by decide) rfl (by omega)) ?_
    refine go_puti fp_X5_35 dX5_become_96 (mX (n := 3) (by decide) rfl (by omega)) ?_
    refine nmV (fun V_14 e_V_14 => ?_)
    have h := h V_14 e_V_14
    refine go_aload_n (q := 0) dX5_become_99 rfl rfl ?_
    refine go_aload_n (q := 1) dX5_become_100 rfl rfl ?_
    refine go_geti fg_X5_38 dX5_become_101 (mX (n := 3) (by decide) rfl (by omega)) ?_
    refine go_puti fp_X5_38 dX5_become_104 (mX (n := 3) (by decide) rfl (by omega)) ?_
    refine nmV (fun V_15 e_V_15 => ?_)
    have h := h V_15 e_V_15
    refine go_aload_n (q := 0) dX5_become_107 rfl rfl ?_
    refine go_aload_n (q := 1) dX5_become_108 rfl rfl ?_
    refine go_geti fg_X5_41 dX5_become_109 (mX (n := 3) (by decide) rfl (by omega)) ?_
    refine go_puti fp_X5_41 dX5_become_112 (mX (n := 3) (by decide) rfl (by omega)) ?_
    refine nmV (fun V_16 e_V_16 => ?_)
    have h := h V_16 e_V_16
    refine go_aload_n (q := 0) dX5_become_115 rfl rfl ?_
    refine go_aload_n (q := 1) dX5_become_116 rfl rfl ?_
    refine go_geti fg_X5_44 dX5_become_117 (mX (n := 3) (by decide) rfl (by omega)) ?_
    refine go_puti fp_X5_44 dX5_become_120 (mX (n := 3) (by decide) rfl (by omega)) ?_
    refine nmV (fun V_17 e_V_17 => ?_)
    have h := h V_17 e_V_17
    refine go_aload_n (q := 0) dX5_become_123 rfl rfl ?_
    refine go_aload_n (q := 1) dX5_become_124 rfl rfl ?_
    refine go_geti fg_X5_47 dX5_become_125 (mX (n := 3) (by decide) rfl (by omega)) ?_
    refine go_puti fp_X5_47 dX5_become_128 (mX (n := 3) (by decide) rfl (by omega)) ?_
    refine nmV (fun V_18 e_V_18 => ?_)
    have h := h V_18 e_V_18
    refine go_aload_n (q := 0) dX5_become_131 rfl rfl ?_
    refine go_aload_n (q := 1) dX5_become_132 rfl rfl ?_
    refine go_geti fg_X5_50 dX5_become_133 (mX (n := 3) (by decide) rfl (by omega)) ?_
    refine go_puti fp_X5_50 dX5_become_136 (mX (n := 3) (by decide) rfl (by omega)) ?_
    refine nmV (fun V_19 e_V_19 => ?_)
    have h := h V_19 e_V_19
    refine go_aload_n (q := 0) dX5_become_139 rfl rfl ?_
    refine go_aload_n (q := 1) dX5_become_140 rfl rfl ?_
    refine go_geti fg_X5_53 dX5_become_141 (mX (n := 3) (by decide) rfl (by omega)) ?_
    refine go_puti fp_X5_53 dX5_become_144 (mX (n := 3) (by decide) rfl (by omega)) ?_
    refine nmV (fun V_20 e_V_20 => ?_)
    have h := h V_20 e_V_20
    refine go_aload_n (q := 0) dX5_become_147 rfl rfl ?_
    refine go_aload_n (q := 1) dX5_become_148 rfl rfl ?_
    refine go_geti fg_X5_56 dX5_become_149 (mX (n := 3) (by decide) rfl (by omega)) ?_
    refine go_puti fp_X5_56 dX5_become_152 (mX (n := 3) (by decide) rfl (by omega)) ?_
    refine nmV (fun V_21 e_V_21 => ?_)
    have h := h V_21 e_V_21
    refine go_aload_n (q := 0) dX5_become_155 rfl rfl ?_
    refine go_aload_n (q := 1) dX5_become_156 rfl rfl ?_
    refine go_geti fg_X5_59 dX5_become_157 (mX (n := 3) (by decide) rfl (by omega)) ?_
    refine go_puti fp_X5_59 dX5_become_160 (mX (n := 3) (by decide) rfl (by omega)) ?_
    refine nmV (fun V_22 e_V_22 => ?_)
    have h := h V_22 e_V_22
    exact go_vret rfl dX5_become_163 h
  · have h := h.2 c_25
    refine go_aload_n (q := 0) dX5_become_18 rfl rfl ?_
    refine go_getr fg_X5_11 dX5_become_19 (mX (n := 3) (by decide) rfl (by omega)) ?_
    refine go_iload_n (q := 2) dX5_become_22 rfl rfl ?_
    obtain ⟨j_23, e_j_23, l_j_23, h⟩ := h
    refine go_aald (r := 13) (n := 8) (j := j_23) rfl rfl (by decide) dX5_become_23 (mX (n := 3) (by decide) rfl (by omega)) e_j_23 l_j_23 ?_
    refine go_aload_n (q := 1) dX5_become_24 rfl rfl ?_
    refine go_getr fg_X5_11 dX5_become_25 (mX (n := 3) (by decide) rfl (by omega)) ?_
    refine go_iload_n (q := 2) dX5_become_28 rfl rfl ?_
    refine go_aald (r := 13) (n := 8) (j := j_23) rfl rfl (by decide) dX5_become_29 (mX (n := 3) (by decide) rfl (by omega)) e_j_23 (by omega) ?_
    refine go_cVV (As := [aR 3 (8 * n1 + j_23)]) (st := []) (r := 3) (i := (8 * i0 + j_23)) mv_X2_become dX5_become_30 ml_X5_67 (hr_Kp (Nat.le_refl d)) rfl rfl (mX (n := 29) (by decide) rfl (by omega)) rfl rfl (Nat.le_of_ble_eq_true rfl) h (fun V_24 h => ?_)
    refine go_iinc (q := 2) (y := 1) (al1 := [(2, aI (x2 + 1)), (0, aR 2 i0), (1, aR 2 n1)]) dX5_become_33 rfl (by decide) (by decide) rfl ?_
    refine go_goto (tgt := 10) dX5_become_36 (by decide) ?_
    refine go_sub (al1 := [(0, aR 2 i0), (1, aR 2 n1), (2, aI (x2 + 1))]) [1, 2, 0] rfl ?_
    exact hk10 (x2 + 1)  V_24 h
def wpX5_become_0 (C : CT) (I10 : Int32 → Mem → Prop) (i0 : Nat) (n1 : Nat)  (V : Mem) (Q : Option AV → Mem → Prop) : Prop :=
  (∀ V_1 : Mem, V_1 = mu V 2 i0 6 (V 2 n1 6) → I10 0 V_1)
set_option maxRecDepth 10000 in
theorem okX5_become_0 {d : Nat} {P : Option AV → Mem → Prop} {I10 : Int32 → Mem → Prop} (i0 : Nat) (n1 : Nat) (h_i0 : i0 < 3) (h_n1 : n1 < 3)   (V : Mem) (hk10 : ∀ (x2 : Int32), ∀ (V : Mem), I10 x2 V → Gq (Kp (d + 1) mX5_become UX P) UX cX5_become 3 RX5 10 [(0, aR 2 i0), (1, aR 2 n1), (2, aI x2)] [] V) (h : wpX5_become_0 (Cl UX d) I10 i0 n1  V P) : Gq (Kp (d + 1) mX5_become UX P) UX cX5_become 3 RX5 0 [(0, aR 2 i0), (1, aR 2 n1)] [] V := by
  unfold wpX5_become_0 at h
  refine go_aload_n (q := 0) dX5_become_0 rfl rfl ?_
  refine go_aload_n (q := 1) dX5_become_1 rfl rfl ?_
  refine go_geti fg_X5_32 dX5_become_2 (mX (n := 3) (by decide) rfl (by omega)) ?_
  refine go_puti fp_X5_32 dX5_become_5 (mX (n := 3) (by decide) rfl (by omega)) ?_
  refine nmV (fun V_1 e_V_1 => ?_)
  have h := h V_1 e_V_1
  refine go_iconst (v := 0) dX5_become_8 (by decide) ?_
  refine go_istore_n (al1 := [(2, aI 0), (0, aR 2 i0), (1, aR 2 n1)]) dX5_become_9 rfl (by decide) rfl ?_
  refine go_sub (al1 := [(0, aR 2 i0), (1, aR 2 n1), (2, aI 0)]) [1, 2, 0] rfl ?_
  exact hk10 0  V_1 h
theorem clX5_become {d : Nat} {P : Option AV → Mem → Prop} {I10 : Int32 → Mem → Prop} (i0 : Nat) (n1 : Nat) (h_i0 : i0 < 3) (h_n1 : n1 < 3)  (V : Mem) (hk10 : ∀ (x2 : Int32), ∀ (V : Mem), I10 x2 V → Gq (Kp (d + 1) mX5_become UX P) UX cX5_become 3 RX5 10 [(0, aR 2 i0), (1, aR 2 n1), (2, aI x2)] [] V) (h : wpX5_become_0 (Cl UX d) I10 i0 n1  V P) : Cl UX (d + 1) mX5_become [aR 2 i0, aR 2 n1] V P :=
  cl_of [(0, aR 2 i0), (1, aR 2 n1)] (by decide) (fun _ => Nat.le_of_ble_eq_true rfl) (fun _ => rfl) (okX5_become_0 i0 n1 h_i0 h_n1  V hk10 h)
theorem dX5_addRoof_0 : decode cX5_addRoof 0 = .ok (.aload_n 0, 1) := by decide +kernel
theorem dX5_addRoof_1 : decode cX5_addRoof 1 = .ok (.getfield 32, 3) := by decide +kernel
theorem dX5_addRoof_4 : decode cX5_addRoof 4 = .ok (.istore_n 3, 1) := by decide +kernel
theorem dX5_addRoof_5 : decode cX5_addRoof 5 = .ok (.aload_n 0, 1) := by decide +kernel
theorem dX5_addRoof_6 : decode cX5_addRoof 6 = .ok (.getfield 11, 3) := by decide +kernel
theorem dX5_addRoof_9 : decode cX5_addRoof 9 = .ok (.iload_n 3, 1) := by decide +kernel
theorem dX5_addRoof_10 : decode cX5_addRoof 10 = .ok (.aaload, 1) := by decide +kernel
theorem dX5_addRoof_11 : decode cX5_addRoof 11 = .ok (.iload_n 1, 1) := by decide +kernel
theorem dX5_addRoof_12 : decode cX5_addRoof 12 = .ok (.iload_n 2, 1) := by decide +kernel
theorem dX5_addRoof_13 : decode cX5_addRoof 13 = .ok (.invokevirtual 77, 3) := by decide +kernel
theorem dX5_addRoof_16 : decode cX5_addRoof 16 = .ok (.aload_n 0, 1) := by decide +kernel
theorem dX5_addRoof_17 : decode cX5_addRoof 17 = .ok (.dup, 1) := by decide +kernel
theorem dX5_addRoof_18 : decode cX5_addRoof 18 = .ok (.getfield 32, 3) := by decide +kernel
theorem dX5_addRoof_21 : decode cX5_addRoof 21 = .ok (.iconst 1, 1) := by decide +kernel
theorem dX5_addRoof_22 : decode cX5_addRoof 22 = .ok (.iadd, 1) := by decide +kernel
theorem dX5_addRoof_23 : decode cX5_addRoof 23 = .ok (.putfield 32, 3) := by decide +kernel
theorem dX5_addRoof_26 : decode cX5_addRoof 26 = .ok (.iload_n 3, 1) := by decide +kernel
theorem dX5_addRoof_27 : decode cX5_addRoof 27 = .ok (.ireturn, 1) := by decide +kernel
def wpX5_addRoof_0 (C : CT)  (i0 : Nat) (x1 : Int32) (x2 : Int32) (V : Mem) (Q : Option AV → Mem → Prop) : Prop :=
  (∀ z_1 : Int32, z_1 = (V 2 i0 6) → (∃ j_2 : Nat, z_1 = nI j_2 ∧ j_2 < 8 ∧ (cV C mX2_begin [aR 3 (8 * i0 + j_2), aI x1, aI x2] V (fun V_3 => (∀ V_4 : Mem, V_4 = mu V_3 2 i0 6 ((V_3 2 i0 6) + 1) → Q (some (aI z_1)) V_4)))))
set_option maxRecDepth 10000 in
theorem okX5_addRoof_0 {d : Nat} {P : Option AV → Mem → Prop}  (i0 : Nat) (h_i0 : i0 < 3) (x1 : Int32) (x2 : Int32)  (V : Mem)  (h : wpX5_addRoof_0 (Cl UX d)  i0 x1 x2 V P) : Gq (Kp (d + 1) mX5_addRoof UX P) UX cX5_addRoof 4 RX5 0 [(0, aR 2 i0), (1, aI x1), (2, aI x2)] [] V := by
  unfold wpX5_addRoof_0 at h
  refine go_aload_n (q := 0) dX5_addRoof_0 rfl rfl ?_
  refine go_geti fg_X5_32 dX5_addRoof_1 (mX (n := 3) (by decide) rfl (by omega)) ?_
  refine nmI (fun z_1 e_z_1 => ?_)
  have h := h z_1 e_z_1
  refine go_istore_n (al1 := [(3, aI z_1), (0, aR 2 i0), (1, aI x1), (2, aI x2)]) dX5_addRoof_4 rfl (by decide) rfl ?_
  refine go_aload_n (q := 1) dX5_addRoof_5 rfl rfl ?_
  refine go_getr fg_X5_11 dX5_addRoof_6 (mX (n := 3) (by decide) rfl (by omega)) ?_
  refine go_iload_n (q := 0) dX5_addRoof_9 rfl rfl ?_
  obtain ⟨j_2, e_j_2, l_j_2, h⟩ := h
  refine go_aald (r := 13) (n := 8) (j := j_2) rfl rfl (by decide) dX5_addRoof_10 (mX (n := 3) (by decide) rfl (by omega)) e_j_2 l_j_2 ?_
  refine go_iload_n (q := 2) dX5_addRoof_11 rfl rfl ?_
  refine go_iload_n (q := 3) dX5_addRoof_12 rfl rfl ?_
  refine go_cVV (As := [aI x1, aI x2]) (st := []) (r := 3) (i := (8 * i0 + j_2)) mv_X2_begin dX5_addRoof_13 ml_X5_77 (hr_Kp (Nat.le_refl d)) rfl rfl (mX (n := 29) (by decide) rfl (by omega)) rfl rfl (Nat.le_of_ble_eq_true rfl) h (fun V_3 h => ?_)
  refine go_aload_n (q := 1) dX5_addRoof_16 rfl rfl ?_
  refine go_dup dX5_addRoof_17 rfl ?_
  refine go_geti fg_X5_32 dX5_addRoof_18 (mX (n := 3) (by decide) rfl (by omega)) ?_
  refine go_iconst (v := 1) dX5_addRoof_21 (by decide) ?_
  refine go_iadd dX5_addRoof_22 ?_
  refine go_puti fp_X5_32 dX5_addRoof_23 (mX (n := 3) (by decide) rfl (by omega)) ?_
  refine nmV (fun V_4 e_V_4 => ?_)
  have h := h V_4 e_V_4
  refine go_iload_n (q := 0) dX5_addRoof_26 rfl rfl ?_
  exact go_iret rfl dX5_addRoof_27 h
theorem clX5_addRoof {d : Nat} {P : Option AV → Mem → Prop}  (i0 : Nat) (h_i0 : i0 < 3) (x1 : Int32) (x2 : Int32) (V : Mem)  (h : wpX5_addRoof_0 (Cl UX d)  i0 x1 x2 V P) : Cl UX (d + 1) mX5_addRoof [aR 2 i0, aI x1, aI x2] V P :=
  cl_of [(0, aR 2 i0), (1, aI x1), (2, aI x2)] (by decide) (fun _ => Nat.le_of_ble_eq_true rfl) (fun _ => rfl) (okX5_addRoof_0 i0 h_i0 x1 x2 V  h)
theorem dX5_draw_0 : decode cX5_draw 0 = .ok (.aload_n 0, 1) := by decide +kernel
theorem dX5_draw_1 : decode cX5_draw 1 = .ok (.aload_n 0, 1) := by decide +kernel
theorem dX5_draw_2 : decode cX5_draw 2 = .ok (.getfield 41, 3) := by decide +kernel
theorem dX5_draw_5 : decode cX5_draw 5 = .ok (.ldc 81, 2) := by decide +kernel
theorem dX5_draw_7 : decode cX5_draw 7 = .ok (.imul, 1) := by decide +kernel
theorem dX5_draw_8 : decode cX5_draw 8 = .ok (.sipush 12345, 3) := by decide +kernel
theorem dX5_draw_11 : decode cX5_draw 11 = .ok (.iadd, 1) := by decide +kernel
theorem dX5_draw_12 : decode cX5_draw 12 = .ok (.putfield 41, 3) := by decide +kernel
theorem dX5_draw_15 : decode cX5_draw 15 = .ok (.aload_n 0, 1) := by decide +kernel
theorem dX5_draw_16 : decode cX5_draw 16 = .ok (.getfield 41, 3) := by decide +kernel
theorem dX5_draw_19 : decode cX5_draw 19 = .ok (.bipush 8, 2) := by decide +kernel
theorem dX5_draw_21 : decode cX5_draw 21 = .ok (.iushr, 1) := by decide +kernel
theorem dX5_draw_22 : decode cX5_draw 22 = .ok (.ireturn, 1) := by decide +kernel
def wpX5_draw_0 (C : CT)  (i0 : Nat)  (V : Mem) (Q : Option AV → Mem → Prop) : Prop :=
  (∀ V_1 : Mem, V_1 = mu V 2 i0 9 (((V 2 i0 9) * 1103515245) + 12345) → Q (some (aI ((((V_1 2 i0 9)).toUInt32 >>> ((8 : Int32).toUInt32 &&& Int32.toUInt32 31)).toInt32))) V_1)
set_option maxRecDepth 10000 in
theorem okX5_draw_0 {d : Nat} {P : Option AV → Mem → Prop}  (i0 : Nat) (h_i0 : i0 < 3)   (V : Mem)  (h : wpX5_draw_0 (Cl UX d)  i0  V P) : Gq (Kp (d + 1) mX5_draw UX P) UX cX5_draw 1 RX5 0 [(0, aR 2 i0)] [] V := by
  unfold wpX5_draw_0 at h
  refine go_aload_n (q := 0) dX5_draw_0 rfl rfl ?_
  refine go_aload_n (q := 0) dX5_draw_1 rfl rfl ?_
  refine go_geti fg_X5_41 dX5_draw_2 (mX (n := 3) (by decide) rfl (by omega)) ?_
  refine go_ldc dX5_draw_5 ct_X5_81 ?_
  refine go_imul dX5_draw_7 ?_
  refine go_sipush (v := 12345) dX5_draw_8 (by decide) ?_
  refine go_iadd dX5_draw_11 ?_
  refine go_puti fp_X5_41 dX5_draw_12 (mX (n := 3) (by decide) rfl (by omega)) ?_
  refine nmV (fun V_1 e_V_1 => ?_)
  have h := h V_1 e_V_1
  refine go_aload_n (q := 0) dX5_draw_15 rfl rfl ?_
  refine go_geti fg_X5_41 dX5_draw_16 (mX (n := 3) (by decide) rfl (by omega)) ?_
  refine go_bipush (v := 8) dX5_draw_19 (by decide) ?_
  refine go_iushr dX5_draw_21 ?_
  exact go_iret rfl dX5_draw_22 h
theorem clX5_draw {d : Nat} {P : Option AV → Mem → Prop}  (i0 : Nat) (h_i0 : i0 < 3)  (V : Mem)  (h : wpX5_draw_0 (Cl UX d)  i0  V P) : Cl UX (d + 1) mX5_draw [aR 2 i0] V P :=
  cl_of [(0, aR 2 i0)] (by decide) (fun _ => Nat.le_of_ble_eq_true rfl) (fun _ => rfl) (okX5_draw_0 i0 h_i0  V  h)
theorem dX5_hourOfDay_0 : decode cX5_hourOfDay 0 = .ok (.aload_n 0, 1) := by decide +kernel
theorem dX5_hourOfDay_1 : decode cX5_hourOfDay 1 = .ok (.getfield 38, 3) := by decide +kernel
theorem dX5_hourOfDay_4 : decode cX5_hourOfDay 4 = .ok (.bipush 24, 2) := by decide +kernel
theorem dX5_hourOfDay_6 : decode cX5_hourOfDay 6 = .ok (.irem, 1) := by decide +kernel
theorem dX5_hourOfDay_7 : decode cX5_hourOfDay 7 = .ok (.ireturn, 1) := by decide +kernel
def wpX5_hourOfDay_0 (C : CT)  (i0 : Nat)  (V : Mem) (Q : Option AV → Mem → Prop) : Prop :=
  (∀ z_1 : Int32, z_1 = ((V 2 i0 8) - (V 2 i0 8) / 24 * 24) → Q (some (aI z_1)) V)
set_option maxRecDepth 10000 in
theorem okX5_hourOfDay_0 {d : Nat} {P : Option AV → Mem → Prop}  (i0 : Nat) (h_i0 : i0 < 3)   (V : Mem)  (h : wpX5_hourOfDay_0 (Cl UX d)  i0  V P) : Gq (Kp (d + 1) mX5_hourOfDay UX P) UX cX5_hourOfDay 1 RX5 0 [(0, aR 2 i0)] [] V := by
  unfold wpX5_hourOfDay_0 at h
  refine go_aload_n (q := 0) dX5_hourOfDay_0 rfl rfl ?_
  refine go_geti fg_X5_38 dX5_hourOfDay_1 (mX (n := 3) (by decide) rfl (by omega)) ?_
  refine go_bipush (v := 24) dX5_hourOfDay_4 (by decide) ?_
  refine go_irem dX5_hourOfDay_6 (by decide) ?_
  refine nmI (fun z_1 e_z_1 => ?_)
  have h := h z_1 e_z_1
  exact go_iret rfl dX5_hourOfDay_7 h
theorem clX5_hourOfDay {d : Nat} {P : Option AV → Mem → Prop}  (i0 : Nat) (h_i0 : i0 < 3)  (V : Mem)  (h : wpX5_hourOfDay_0 (Cl UX d)  i0  V P) : Cl UX (d + 1) mX5_hourOfDay [aR 2 i0] V P :=
  cl_of [(0, aR 2 i0)] (by decide) (fun _ => Nat.le_of_ble_eq_true rfl) (fun _ => rfl) (okX5_hourOfDay_0 i0 h_i0  V  h)
theorem dX5_hoursLeft_0 : decode cX5_hoursLeft 0 = .ok (.sipush 9999, 3) := by decide +kernel
theorem dX5_hoursLeft_3 : decode cX5_hoursLeft 3 = .ok (.aload_n 0, 1) := by decide +kernel
theorem dX5_hoursLeft_4 : decode cX5_hoursLeft 4 = .ok (.getfield 38, 3) := by decide +kernel
theorem dX5_hoursLeft_7 : decode cX5_hoursLeft 7 = .ok (.isub, 1) := by decide +kernel
theorem dX5_hoursLeft_8 : decode cX5_hoursLeft 8 = .ok (.ireturn, 1) := by decide +kernel
def wpX5_hoursLeft_0 (C : CT)  (i0 : Nat)  (V : Mem) (Q : Option AV → Mem → Prop) : Prop :=
  Q (some (aI (9999 - (V 2 i0 8)))) V
set_option maxRecDepth 10000 in
theorem okX5_hoursLeft_0 {d : Nat} {P : Option AV → Mem → Prop}  (i0 : Nat) (h_i0 : i0 < 3)   (V : Mem)  (h : wpX5_hoursLeft_0 (Cl UX d)  i0  V P) : Gq (Kp (d + 1) mX5_hoursLeft UX P) UX cX5_hoursLeft 1 RX5 0 [(0, aR 2 i0)] [] V := by
  unfold wpX5_hoursLeft_0 at h
  refine go_sipush (v := 9999) dX5_hoursLeft_0 (by decide) ?_
  refine go_aload_n (q := 0) dX5_hoursLeft_3 rfl rfl ?_
  refine go_geti fg_X5_38 dX5_hoursLeft_4 (mX (n := 3) (by decide) rfl (by omega)) ?_
  refine go_isub dX5_hoursLeft_7 ?_
  exact go_iret rfl dX5_hoursLeft_8 h
theorem clX5_hoursLeft {d : Nat} {P : Option AV → Mem → Prop}  (i0 : Nat) (h_i0 : i0 < 3)  (V : Mem)  (h : wpX5_hoursLeft_0 (Cl UX d)  i0  V P) : Cl UX (d + 1) mX5_hoursLeft [aR 2 i0] V P :=
  cl_of [(0, aR 2 i0)] (by decide) (fun _ => Nat.le_of_ble_eq_true rfl) (fun _ => rfl) (okX5_hoursLeft_0 i0 h_i0  V  h)
theorem dX5_warmth_0 : decode cX5_warmth 0 = .ok (.aload_n 0, 1) := by decide +kernel
theorem dX5_warmth_1 : decode cX5_warmth 1 = .ok (.getfield 17, 3) := by decide +kernel
theorem dX5_warmth_4 : decode cX5_warmth 4 = .ok (.aload_n 0, 1) := by decide +kernel
theorem dX5_warmth_5 : decode cX5_warmth 5 = .ok (.invokevirtual 82, 3) := by decide +kernel
theorem dX5_warmth_8 : decode cX5_warmth 8 = .ok (.iaload, 1) := by decide +kernel
theorem dX5_warmth_9 : decode cX5_warmth 9 = .ok (.aload_n 1, 1) := by decide +kernel
theorem dX5_warmth_10 : decode cX5_warmth 10 = .ok (.getfield 86, 3) := by decide +kernel
theorem dX5_warmth_13 : decode cX5_warmth 13 = .ok (.iadd, 1) := by decide +kernel
theorem dX5_warmth_14 : decode cX5_warmth 14 = .ok (.ireturn, 1) := by decide +kernel
def wpX5_warmth_0 (C : CT)  (i0 : Nat) (n1 : Nat)  (V : Mem) (Q : Option AV → Mem → Prop) : Prop :=
  (cI C mX5_hourOfDay [aR 2 i0] V (fun x_2 V_1 => (∃ j_3 : Nat, x_2 = nI j_3 ∧ j_3 < 24 ∧ Q (some (aI ((V_1 14 i0 j_3) + (V_1 3 n1 2)))) V_1)))
set_option maxRecDepth 10000 in
theorem okX5_warmth_0 {d : Nat} {P : Option AV → Mem → Prop}  (i0 : Nat) (n1 : Nat) (h_i0 : i0 < 3) (h_n1 : n1 < 29)   (V : Mem)  (h : wpX5_warmth_0 (Cl UX d)  i0 n1  V P) : Gq (Kp (d + 1) mX5_warmth UX P) UX cX5_warmth 2 RX5 0 [(0, aR 2 i0), (1, aR 3 n1)] [] V := by
  unfold wpX5_warmth_0 at h
  refine go_aload_n (q := 0) dX5_warmth_0 rfl rfl ?_
  refine go_getr fg_X5_17 dX5_warmth_1 (mX (n := 3) (by decide) rfl (by omega)) ?_
  refine go_aload_n (q := 0) dX5_warmth_4 rfl rfl ?_
  refine go_cVI (As := []) (st := [aR 14 i0]) (r := 2) (i := i0) mv_X5_hourOfDay dX5_warmth_5 ml_X5_82 (hr_Kp (Nat.le_refl d)) rfl rfl (mX (n := 3) (by decide) rfl (by omega)) rfl rfl (Nat.le_of_ble_eq_true rfl) h (fun x_2 V_1 h => ?_)
  obtain ⟨j_3, e_j_3, l_j_3, h⟩ := h
  refine go_iald (r := 14) (n := 24) (j := j_3) rfl (by decide) dX5_warmth_8 (mX (n := 3) (by decide) rfl (by omega)) e_j_3 l_j_3 ?_
  refine go_aload_n (q := 1) dX5_warmth_9 rfl rfl ?_
  refine go_geti fg_X5_86 dX5_warmth_10 (mX (n := 29) (by decide) rfl (by omega)) ?_
  refine go_iadd dX5_warmth_13 ?_
  exact go_iret rfl dX5_warmth_14 h
theorem clX5_warmth {d : Nat} {P : Option AV → Mem → Prop}  (i0 : Nat) (n1 : Nat) (h_i0 : i0 < 3) (h_n1 : n1 < 29)  (V : Mem)  (h : wpX5_warmth_0 (Cl UX d)  i0 n1  V P) : Cl UX (d + 1) mX5_warmth [aR 2 i0, aR 3 n1] V P :=
  cl_of [(0, aR 2 i0), (1, aR 3 n1)] (by decide) (fun _ => Nat.le_of_ble_eq_true rfl) (fun _ => rfl) (okX5_warmth_0 i0 n1 h_i0 h_n1  V  h)
theorem dX5_melts_0 : decode cX5_melts 0 = .ok (.aload_n 0, 1) := by decide +kernel
theorem dX5_melts_1 : decode cX5_melts 1 = .ok (.aload_n 1, 1) := by decide +kernel
theorem dX5_melts_2 : decode cX5_melts 2 = .ok (.invokevirtual 89, 3) := by decide +kernel
theorem dX5_melts_5 : decode cX5_melts 5 = .ok (.istore_n 2, 1) := by decide +kernel
theorem dX5_melts_6 : decode cX5_melts 6 = .ok (.aload_n 0, 1) := by decide +kernel
theorem dX5_melts_7 : decode cX5_melts 7 = .ok (.getfield 25, 3) := by decide +kernel
theorem dX5_melts_10 : decode cX5_melts 10 = .ok (.iconst 0, 1) := by decide +kernel
theorem dX5_melts_11 : decode cX5_melts 11 = .ok (.iaload, 1) := by decide +kernel
theorem dX5_melts_12 : decode cX5_melts 12 = .ok (.istore_n 3, 1) := by decide +kernel
theorem dX5_melts_13 : decode cX5_melts 13 = .ok (.iload_n 3, 1) := by decide +kernel
theorem dX5_melts_14 : decode cX5_melts 14 = .ok (.ldc 24, 2) := by decide +kernel
theorem dX5_melts_16 : decode cX5_melts 16 = .ok (.if_icmp .ne 12, 3) := by decide +kernel
theorem dX5_melts_19 : decode cX5_melts 19 = .ok (.aload_n 1, 1) := by decide +kernel
theorem dX5_melts_20 : decode cX5_melts 20 = .ok (.getfield 93, 3) := by decide +kernel
theorem dX5_melts_23 : decode cX5_melts 23 = .ok (.iload_n 2, 1) := by decide +kernel
theorem dX5_melts_24 : decode cX5_melts 24 = .ok (.imul, 1) := by decide +kernel
theorem dX5_melts_25 : decode cX5_melts 25 = .ok (.goto 20, 3) := by decide +kernel
theorem dX5_melts_28 : decode cX5_melts 28 = .ok (.aload_n 0, 1) := by decide +kernel
theorem dX5_melts_29 : decode cX5_melts 29 = .ok (.getfield 62, 3) := by decide +kernel
theorem dX5_melts_32 : decode cX5_melts 32 = .ok (.iload_n 3, 1) := by decide +kernel
theorem dX5_melts_33 : decode cX5_melts 33 = .ok (.iload_n 2, 1) := by decide +kernel
theorem dX5_melts_34 : decode cX5_melts 34 = .ok (.aload_n 1, 1) := by decide +kernel
theorem dX5_melts_35 : decode cX5_melts 35 = .ok (.getfield 96, 3) := by decide +kernel
theorem dX5_melts_38 : decode cX5_melts 38 = .ok (.aload_n 1, 1) := by decide +kernel
theorem dX5_melts_39 : decode cX5_melts 39 = .ok (.getfield 93, 3) := by decide +kernel
theorem dX5_melts_42 : decode cX5_melts 42 = .ok (.invokevirtual 99, 3) := by decide +kernel
theorem dX5_melts_45 : decode cX5_melts 45 = .ok (.istore 4, 2) := by decide +kernel
theorem dX5_melts_47 : decode cX5_melts 47 = .ok (.iconst 0, 1) := by decide +kernel
theorem dX5_melts_48 : decode cX5_melts 48 = .ok (.iload 4, 2) := by decide +kernel
theorem dX5_melts_50 : decode cX5_melts 50 = .ok (.aload_n 1, 1) := by decide +kernel
theorem dX5_melts_51 : decode cX5_melts 51 = .ok (.getfield 96, 3) := by decide +kernel
theorem dX5_melts_54 : decode cX5_melts 54 = .ok (.invokestatic 105, 3) := by decide +kernel
theorem dX5_melts_57 : decode cX5_melts 57 = .ok (.invokestatic 111, 3) := by decide +kernel
theorem dX5_melts_60 : decode cX5_melts 60 = .ok (.istore 5, 2) := by decide +kernel
theorem dX5_melts_62 : decode cX5_melts 62 = .ok (.aload_n 1, 1) := by decide +kernel
theorem dX5_melts_63 : decode cX5_melts 63 = .ok (.getfield 114, 3) := by decide +kernel
theorem dX5_melts_66 : decode cX5_melts 66 = .ok (.lookupswitch 43 #[(4, 38), (5, 26)], 26) := by decide +kernel
theorem dX5_melts_92 : decode cX5_melts 92 = .ok (.iconst 2, 1) := by decide +kernel
theorem dX5_melts_93 : decode cX5_melts 93 = .ok (.iload 5, 2) := by decide +kernel
theorem dX5_melts_95 : decode cX5_melts 95 = .ok (.imul, 1) := by decide +kernel
theorem dX5_melts_96 : decode cX5_melts 96 = .ok (.aload_n 1, 1) := by decide +kernel
theorem dX5_melts_97 : decode cX5_melts 97 = .ok (.getfield 96, 3) := by decide +kernel
theorem dX5_melts_100 : decode cX5_melts 100 = .ok (.invokestatic 105, 3) := by decide +kernel
theorem dX5_melts_103 : decode cX5_melts 103 = .ok (.ireturn, 1) := by decide +kernel
theorem dX5_melts_104 : decode cX5_melts 104 = .ok (.iload 5, 2) := by decide +kernel
theorem dX5_melts_106 : decode cX5_melts 106 = .ok (.iconst 2, 1) := by decide +kernel
theorem dX5_melts_107 : decode cX5_melts 107 = .ok (.idiv, 1) := by decide +kernel
theorem dX5_melts_108 : decode cX5_melts 108 = .ok (.ireturn, 1) := by decide +kernel
theorem dX5_melts_109 : decode cX5_melts 109 = .ok (.iload 5, 2) := by decide +kernel
theorem dX5_melts_111 : decode cX5_melts 111 = .ok (.ireturn, 1) := by decide +kernel
def wpX5_melts_45 (C : CT)  (i0 : Nat) (n1 : Nat) (x2 : Int32) (x3 : Int32) (s0 : Int32) (V : Mem) (Q : Option AV → Mem → Prop) : Prop :=
  (∀ z_1 : Int32, z_1 = (if (V 3 n1 5) < s0 then (V 3 n1 5) else s0) → (∀ z_2 : Int32, z_2 = (if 0 < z_1 then z_1 else 0) → (((V 3 n1 0) = 4 → Q (some (aI (z_2 / 2))) V) ∧ ((V 3 n1 0) = 5 → (∀ z_3 : Int32, z_3 = (if (V 3 n1 5) < (2 * z_2) then (V 3 n1 5) else (2 * z_2)) → Q (some (aI z_3)) V)) ∧ (¬ (V 3 n1 0) = 4 ∧ ¬ (V 3 n1 0) = 5 → Q (some (aI z_2)) V))))
set_option maxRecDepth 10000 in
theorem okX5_melts_45 {d : Nat} {P : Option AV → Mem → Prop}  (i0 : Nat) (n1 : Nat) (h_i0 : i0 < 3) (h_n1 : n1 < 29) (x2 : Int32) (x3 : Int32) (s0 : Int32)  (V : Mem)  (h : wpX5_melts_45 (Cl UX d)  i0 n1 x2 x3 s0 V P) : Gq (Kp (d + 1) mX5_melts UX P) UX cX5_melts 6 RX5 45 [(0, aR 2 i0), (1, aR 3 n1), (2, aI x2), (3, aI x3)] [aI s0] V := by
  unfold wpX5_melts_45 at h
  refine go_istore (al1 := [(4, aI s0), (0, aR 2 i0), (1, aR 3 n1), (2, aI x2), (3, aI x3)]) dX5_melts_45 (by decide) rfl ?_
  refine go_iconst (v := 0) dX5_melts_47 (by decide) ?_
  refine go_iload (q := 0) dX5_melts_48 rfl ?_
  refine go_aload_n (q := 2) dX5_melts_50 rfl rfl ?_
  refine go_geti fg_X5_96 dX5_melts_51 (mX (n := 29) (by decide) rfl (by omega)) ?_
  refine go_mmin ml_X5_105 mt_min1 mt_ini mt_min2 (hr_Kp (Nat.zero_le d)) (Nat.le_of_ble_eq_true rfl) dX5_melts_54 ?_
  refine nmI (fun z_1 e_z_1 => ?_)
  have h := h z_1 e_z_1
  refine go_mmax ml_X5_111 mt_max1 mt_ini mt_max2 (hr_Kp (Nat.zero_le d)) (Nat.le_of_ble_eq_true rfl) dX5_melts_57 ?_
  refine nmI (fun z_2 e_z_2 => ?_)
  have h := h z_2 e_z_2
  refine go_istore (al1 := [(5, aI z_2), (4, aI s0), (0, aR 2 i0), (1, aR 3 n1), (2, aI x2), (3, aI x3)]) dX5_melts_60 (by decide) rfl ?_
  refine go_aload_n (q := 3) dX5_melts_62 rfl rfl ?_
  refine go_geti fg_X5_114 dX5_melts_63 (mX (n := 29) (by decide) rfl (by omega)) ?_
  by_cases c66_0 : (V 3 n1 0) = 4
  · have h := h.1 c66_0
    refine go_lookC (z := 4) (off := 38) (tgt := 104) c66_0 dX5_melts_66 (by decide) (by decide) (by decide) ?_
    refine go_iload (q := 0) dX5_melts_104 rfl ?_
    refine go_iconst (v := 2) dX5_melts_106 (by decide) ?_
    refine go_idiv dX5_melts_107 (by decide) ?_
    exact go_iret rfl dX5_melts_108 h
  by_cases c66_1 : (V 3 n1 0) = 5
  · have h := h.2.1 c66_1
    refine go_lookC (z := 5) (off := 26) (tgt := 92) c66_1 dX5_melts_66 (by decide) (by decide) (by decide) ?_
    refine go_iconst (v := 2) dX5_melts_92 (by decide) ?_
    refine go_iload (q := 0) dX5_melts_93 rfl ?_
    refine go_imul dX5_melts_95 ?_
    refine go_aload_n (q := 3) dX5_melts_96 rfl rfl ?_
    refine go_geti fg_X5_96 dX5_melts_97 (mX (n := 29) (by decide) rfl (by omega)) ?_
    refine go_mmin ml_X5_105 mt_min1 mt_ini mt_min2 (hr_Kp (Nat.zero_le d)) (Nat.le_of_ble_eq_true rfl) dX5_melts_100 ?_
    refine nmI (fun z_3 e_z_3 => ?_)
    have h := h z_3 e_z_3
    exact go_iret rfl dX5_melts_103 h
  have h := h.2.2 ⟨c66_0, c66_1⟩
  refine go_lookup (off := 43) (tgt := 109) dX5_melts_66 (by decide) (by show Op.lookupswitch.offset [(4, 38), (5, 26)] _ _ = _; rw [lv_osw c66_0 (show (4 : Int32).toInt = 4 from rfl), lv_osw c66_1 (show (5 : Int32).toInt = 5 from rfl)]; rfl) (by decide) ?_
  refine go_iload (q := 0) dX5_melts_109 rfl ?_
  exact go_iret rfl dX5_melts_111 h
def wpX5_melts_0 (C : CT)  (i0 : Nat) (n1 : Nat)  (V : Mem) (Q : Option AV → Mem → Prop) : Prop :=
  (cI C mX5_warmth [aR 2 i0, aR 3 n1] V (fun x_2 V_1 => (∀ z_3 : Int32, z_3 = (V_1 16 i0 0) → ((¬ z_3 = (-1000000005) → (cI C mX0_give [aR 1 0, aI z_3, aI x_2, aI (V_1 3 n1 5), aI (V_1 3 n1 1)] V_1 (fun x_5 V_4 => wpX5_melts_45 C  i0 n1 x_2 z_3 x_5 V_4 Q))) ∧ (z_3 = (-1000000005) → wpX5_melts_45 C  i0 n1 x_2 z_3 ((V_1 3 n1 1) * x_2) V_1 Q)))))
set_option maxRecDepth 10000 in
theorem okX5_melts_0 {d : Nat} {P : Option AV → Mem → Prop}  (i0 : Nat) (n1 : Nat) (h_i0 : i0 < 3) (h_n1 : n1 < 29)   (V : Mem)  (h : wpX5_melts_0 (Cl UX d)  i0 n1  V P) : Gq (Kp (d + 1) mX5_melts UX P) UX cX5_melts 6 RX5 0 [(0, aR 2 i0), (1, aR 3 n1)] [] V := by
  unfold wpX5_melts_0 at h
  refine go_aload_n (q := 0) dX5_melts_0 rfl rfl ?_
  refine go_aload_n (q := 1) dX5_melts_1 rfl rfl ?_
  refine go_cVI (As := [aR 3 n1]) (st := []) (r := 2) (i := i0) mv_X5_warmth dX5_melts_2 ml_X5_89 (hr_Kp (Nat.le_refl d)) rfl rfl (mX (n := 3) (by decide) rfl (by omega)) rfl rfl (Nat.le_of_ble_eq_true rfl) h (fun x_2 V_1 h => ?_)
  refine go_istore_n (al1 := [(2, aI x_2), (0, aR 2 i0), (1, aR 3 n1)]) dX5_melts_5 rfl (by decide) rfl ?_
  refine go_aload_n (q := 1) dX5_melts_6 rfl rfl ?_
  refine go_getr fg_X5_25 dX5_melts_7 (mX (n := 3) (by decide) rfl (by omega)) ?_
  refine go_iconst (v := 0) dX5_melts_10 (by decide) ?_
  refine go_iald (r := 16) (n := 3) (j := 0) rfl (by decide) dX5_melts_11 (mX (n := 3) (by decide) rfl (by omega)) (by decide) (by decide) ?_
  refine nmI (fun z_3 e_z_3 => ?_)
  have h := h z_3 e_z_3
  refine go_istore_n (al1 := [(3, aI z_3), (2, aI x_2), (0, aR 2 i0), (1, aR 3 n1)]) dX5_melts_12 rfl (by decide) rfl ?_
  refine go_iload_n (q := 0) dX5_melts_13 rfl rfl ?_
  refine go_ldc dX5_melts_14 ct_X5_24 ?_
  refine go_icmp_ne (tgt := 28) dX5_melts_16 (by decide) (fun c_6 => ?_) (fun c_6 => ?_)
  · have h := h.1 c_6
    refine go_aload_n (q := 2) dX5_melts_28 rfl rfl ?_
    refine go_getr fg_X5_62 dX5_melts_29 (mX (n := 3) (by decide) rfl (by omega)) ?_
    refine go_iload_n (q := 0) dX5_melts_32 rfl rfl ?_
    refine go_iload_n (q := 1) dX5_melts_33 rfl rfl ?_
    refine go_aload_n (q := 3) dX5_melts_34 rfl rfl ?_
    refine go_geti fg_X5_96 dX5_melts_35 (mX (n := 29) (by decide) rfl (by omega)) ?_
    refine go_aload_n (q := 3) dX5_melts_38 rfl rfl ?_
    refine go_geti fg_X5_93 dX5_melts_39 (mX (n := 29) (by decide) rfl (by omega)) ?_
    refine go_cVI (As := [aI z_3, aI x_2, aI (V_1 3 n1 5), aI (V_1 3 n1 1)]) (st := []) (r := 1) (i := 0) mv_X0_give dX5_melts_42 ml_X5_99 (hr_Kp (Nat.le_refl d)) rfl rfl (mX (n := 1) (by decide) rfl (by omega)) rfl rfl (Nat.le_of_ble_eq_true rfl) h (fun x_5 V_4 h => ?_)
    refine go_sub (al1 := [(0, aR 2 i0), (1, aR 3 n1), (2, aI x_2), (3, aI z_3)]) [2, 3, 1, 0] rfl ?_
    exact okX5_melts_45 i0 n1 (by omega) (by omega) x_2 z_3 x_5  V_4  h
  · have h := h.2 c_6
    refine go_aload_n (q := 3) dX5_melts_19 rfl rfl ?_
    refine go_geti fg_X5_93 dX5_melts_20 (mX (n := 29) (by decide) rfl (by omega)) ?_
    refine go_iload_n (q := 1) dX5_melts_23 rfl rfl ?_
    refine go_imul dX5_melts_24 ?_
    refine go_goto (tgt := 45) dX5_melts_25 (by decide) ?_
    refine go_sub (al1 := [(0, aR 2 i0), (1, aR 3 n1), (2, aI x_2), (3, aI z_3)]) [2, 3, 1, 0] rfl ?_
    exact okX5_melts_45 i0 n1 (by omega) (by omega) x_2 z_3 ((V_1 3 n1 1) * x_2)  V_1  h
theorem clX5_melts {d : Nat} {P : Option AV → Mem → Prop}  (i0 : Nat) (n1 : Nat) (h_i0 : i0 < 3) (h_n1 : n1 < 29)  (V : Mem)  (h : wpX5_melts_0 (Cl UX d)  i0 n1  V P) : Cl UX (d + 1) mX5_melts [aR 2 i0, aR 3 n1] V P :=
  cl_of [(0, aR 2 i0), (1, aR 3 n1)] (by decide) (fun _ => Nat.le_of_ble_eq_true rfl) (fun _ => rfl) (okX5_melts_0 i0 n1 h_i0 h_n1  V  h)
theorem dX5_owns_0 : decode cX5_owns 0 = .ok (.aload_n 0, 1) := by decide +kernel
theorem dX5_owns_1 : decode cX5_owns 1 = .ok (.getfield 25, 3) := by decide +kernel
theorem dX5_owns_4 : decode cX5_owns 4 = .ok (.iconst 1, 1) := by decide +kernel
theorem dX5_owns_5 : decode cX5_owns 5 = .ok (.iaload, 1) := by decide +kernel
theorem dX5_owns_6 : decode cX5_owns 6 = .ok (.istore_n 2, 1) := by decide +kernel
theorem dX5_owns_7 : decode cX5_owns 7 = .ok (.iload_n 2, 1) := by decide +kernel
theorem dX5_owns_8 : decode cX5_owns 8 = .ok (.ldc 24, 2) := by decide +kernel
theorem dX5_owns_10 : decode cX5_owns 10 = .ok (.if_icmp .ne 20, 3) := by decide +kernel
theorem dX5_owns_13 : decode cX5_owns 13 = .ok (.aload_n 0, 1) := by decide +kernel
theorem dX5_owns_14 : decode cX5_owns 14 = .ok (.invokevirtual 82, 3) := by decide +kernel
theorem dX5_owns_17 : decode cX5_owns 17 = .ok (.aload_n 0, 1) := by decide +kernel
theorem dX5_owns_18 : decode cX5_owns 18 = .ok (.getfield 35, 3) := by decide +kernel
theorem dX5_owns_21 : decode cX5_owns 21 = .ok (.if_icmp .lt 7, 3) := by decide +kernel
theorem dX5_owns_24 : decode cX5_owns 24 = .ok (.iconst 1, 1) := by decide +kernel
theorem dX5_owns_25 : decode cX5_owns 25 = .ok (.goto 4, 3) := by decide +kernel
theorem dX5_owns_28 : decode cX5_owns 28 = .ok (.iconst 0, 1) := by decide +kernel
theorem dX5_owns_29 : decode cX5_owns 29 = .ok (.ireturn, 1) := by decide +kernel
theorem dX5_owns_30 : decode cX5_owns 30 = .ok (.aload_n 0, 1) := by decide +kernel
theorem dX5_owns_31 : decode cX5_owns 31 = .ok (.getfield 62, 3) := by decide +kernel
theorem dX5_owns_34 : decode cX5_owns 34 = .ok (.iload_n 2, 1) := by decide +kernel
theorem dX5_owns_35 : decode cX5_owns 35 = .ok (.aload_n 0, 1) := by decide +kernel
theorem dX5_owns_36 : decode cX5_owns 36 = .ok (.invokevirtual 82, 3) := by decide +kernel
theorem dX5_owns_39 : decode cX5_owns 39 = .ok (.aload_n 0, 1) := by decide +kernel
theorem dX5_owns_40 : decode cX5_owns 40 = .ok (.aload_n 1, 1) := by decide +kernel
theorem dX5_owns_41 : decode cX5_owns 41 = .ok (.invokevirtual 89, 3) := by decide +kernel
theorem dX5_owns_44 : decode cX5_owns 44 = .ok (.iconst 0, 1) := by decide +kernel
theorem dX5_owns_45 : decode cX5_owns 45 = .ok (.invokevirtual 99, 3) := by decide +kernel
theorem dX5_owns_48 : decode cX5_owns 48 = .ok (.ifCond .eq 7, 3) := by decide +kernel
theorem dX5_owns_51 : decode cX5_owns 51 = .ok (.iconst 1, 1) := by decide +kernel
theorem dX5_owns_52 : decode cX5_owns 52 = .ok (.goto 4, 3) := by decide +kernel
theorem dX5_owns_55 : decode cX5_owns 55 = .ok (.iconst 0, 1) := by decide +kernel
theorem dX5_owns_56 : decode cX5_owns 56 = .ok (.ireturn, 1) := by decide +kernel
def wpX5_owns_0 (C : CT)  (i0 : Nat) (n1 : Nat)  (V : Mem) (Q : Option AV → Mem → Prop) : Prop :=
  (∀ z_1 : Int32, z_1 = (V 16 i0 1) → ((¬ z_1 = (-1000000005) → (cI C mX5_hourOfDay [aR 2 i0] V (fun x_3 V_2 => (cI C mX5_warmth [aR 2 i0, aR 3 n1] V_2 (fun x_5 V_4 => (cI C mX0_give [aR 1 0, aI z_1, aI x_3, aI x_5, aI 0] V_4 (fun x_7 V_6 => ((x_7 = 0 → Q (some (aI 0)) V_6) ∧ (¬ x_7 = 0 → Q (some (aI 1)) V_6))))))))) ∧ (z_1 = (-1000000005) → (cI C mX5_hourOfDay [aR 2 i0] V (fun x_10 V_9 => ((x_10 < (V_9 2 i0 7) → Q (some (aI 0)) V_9) ∧ (¬ x_10 < (V_9 2 i0 7) → Q (some (aI 1)) V_9)))))))
set_option maxRecDepth 10000 in
theorem okX5_owns_0 {d : Nat} {P : Option AV → Mem → Prop}  (i0 : Nat) (n1 : Nat) (h_i0 : i0 < 3) (h_n1 : n1 < 29)   (V : Mem)  (h : wpX5_owns_0 (Cl UX d)  i0 n1  V P) : Gq (Kp (d + 1) mX5_owns UX P) UX cX5_owns 3 RX5 0 [(0, aR 2 i0), (1, aR 3 n1)] [] V := by
  unfold wpX5_owns_0 at h
  refine go_aload_n (q := 0) dX5_owns_0 rfl rfl ?_
  refine go_getr fg_X5_25 dX5_owns_1 (mX (n := 3) (by decide) rfl (by omega)) ?_
  refine go_iconst (v := 1) dX5_owns_4 (by decide) ?_
  refine go_iald (r := 16) (n := 3) (j := 1) rfl (by decide) dX5_owns_5 (mX (n := 3) (by decide) rfl (by omega)) (by decide) (by decide) ?_
  refine nmI (fun z_1 e_z_1 => ?_)
  have h := h z_1 e_z_1
  refine go_istore_n (al1 := [(2, aI z_1), (0, aR 2 i0), (1, aR 3 n1)]) dX5_owns_6 rfl (by decide) rfl ?_
  refine go_iload_n (q := 0) dX5_owns_7 rfl rfl ?_
  refine go_ldc dX5_owns_8 ct_X5_24 ?_
  refine go_icmp_ne (tgt := 30) dX5_owns_10 (by decide) (fun c_12 => ?_) (fun c_12 => ?_)
  · have h := h.1 c_12
    refine go_aload_n (q := 1) dX5_owns_30 rfl rfl ?_
    refine go_getr fg_X5_62 dX5_owns_31 (mX (n := 3) (by decide) rfl (by omega)) ?_
    refine go_iload_n (q := 0) dX5_owns_34 rfl rfl ?_
    refine go_aload_n (q := 1) dX5_owns_35 rfl rfl ?_
    refine go_cVI (As := []) (st := [aI z_1, aR 1 0]) (r := 2) (i := i0) mv_X5_hourOfDay dX5_owns_36 ml_X5_82 (hr_Kp (Nat.le_refl d)) rfl rfl (mX (n := 3) (by decide) rfl (by omega)) rfl rfl (Nat.le_of_ble_eq_true rfl) h (fun x_3 V_2 h => ?_)
    refine go_aload_n (q := 1) dX5_owns_39 rfl rfl ?_
    refine go_aload_n (q := 2) dX5_owns_40 rfl rfl ?_
    refine go_cVI (As := [aR 3 n1]) (st := [aI x_3, aI z_1, aR 1 0]) (r := 2) (i := i0) mv_X5_warmth dX5_owns_41 ml_X5_89 (hr_Kp (Nat.le_refl d)) rfl rfl (mX (n := 3) (by decide) rfl (by omega)) rfl rfl (Nat.le_of_ble_eq_true rfl) h (fun x_5 V_4 h => ?_)
    refine go_iconst (v := 0) dX5_owns_44 (by decide) ?_
    refine go_cVI (As := [aI z_1, aI x_3, aI x_5, aI 0]) (st := []) (r := 1) (i := 0) mv_X0_give dX5_owns_45 ml_X5_99 (hr_Kp (Nat.le_refl d)) rfl rfl (mX (n := 1) (by decide) rfl (by omega)) rfl rfl (Nat.le_of_ble_eq_true rfl) h (fun x_7 V_6 h => ?_)
    refine go_if_eq (tgt := 55) dX5_owns_48 (by decide) (fun c_8 => ?_) (fun c_8 => ?_)
    · have h := h.1 c_8
      refine go_iconst (v := 0) dX5_owns_55 (by decide) ?_
      exact go_bret rfl dX5_owns_56 (by decide) h
    · have h := h.2 c_8
      refine go_iconst (v := 1) dX5_owns_51 (by decide) ?_
      refine go_goto (tgt := 56) dX5_owns_52 (by decide) ?_
      exact go_bret rfl dX5_owns_56 (by decide) h
  · have h := h.2 c_12
    refine go_aload_n (q := 1) dX5_owns_13 rfl rfl ?_
    refine go_cVI (As := []) (st := []) (r := 2) (i := i0) mv_X5_hourOfDay dX5_owns_14 ml_X5_82 (hr_Kp (Nat.le_refl d)) rfl rfl (mX (n := 3) (by decide) rfl (by omega)) rfl rfl (Nat.le_of_ble_eq_true rfl) h (fun x_10 V_9 h => ?_)
    refine go_aload_n (q := 1) dX5_owns_17 rfl rfl ?_
    refine go_geti fg_X5_35 dX5_owns_18 (mX (n := 3) (by decide) rfl (by omega)) ?_
    refine go_icmp_lt (tgt := 28) dX5_owns_21 (by decide) (fun c_11 => ?_) (fun c_11 => ?_)
    · have h := h.1 c_11
      refine go_iconst (v := 0) dX5_owns_28 (by decide) ?_
      exact go_bret rfl dX5_owns_29 (by decide) h
    · have h := h.2 c_11
      refine go_iconst (v := 1) dX5_owns_24 (by decide) ?_
      refine go_goto (tgt := 29) dX5_owns_25 (by decide) ?_
      exact go_bret rfl dX5_owns_29 (by decide) h
theorem clX5_owns {d : Nat} {P : Option AV → Mem → Prop}  (i0 : Nat) (n1 : Nat) (h_i0 : i0 < 3) (h_n1 : n1 < 29)  (V : Mem)  (h : wpX5_owns_0 (Cl UX d)  i0 n1  V P) : Cl UX (d + 1) mX5_owns [aR 2 i0, aR 3 n1] V P :=
  cl_of [(0, aR 2 i0), (1, aR 3 n1)] (by decide) (fun _ => Nat.le_of_ble_eq_true rfl) (fun _ => rfl) (okX5_owns_0 i0 n1 h_i0 h_n1  V  h)
theorem dX5_fineFor_0 : decode cX5_fineFor 0 = .ok (.aload_n 0, 1) := by decide +kernel
theorem dX5_fineFor_1 : decode cX5_fineFor 1 = .ok (.getfield 25, 3) := by decide +kernel
theorem dX5_fineFor_4 : decode cX5_fineFor 4 = .ok (.iconst 2, 1) := by decide +kernel
theorem dX5_fineFor_5 : decode cX5_fineFor 5 = .ok (.iaload, 1) := by decide +kernel
theorem dX5_fineFor_6 : decode cX5_fineFor 6 = .ok (.istore_n 2, 1) := by decide +kernel
theorem dX5_fineFor_7 : decode cX5_fineFor 7 = .ok (.iload_n 2, 1) := by decide +kernel
theorem dX5_fineFor_8 : decode cX5_fineFor 8 = .ok (.ldc 24, 2) := by decide +kernel
theorem dX5_fineFor_10 : decode cX5_fineFor 10 = .ok (.if_icmp .ne 10, 3) := by decide +kernel
theorem dX5_fineFor_13 : decode cX5_fineFor 13 = .ok (.aload_n 0, 1) := by decide +kernel
theorem dX5_fineFor_14 : decode cX5_fineFor 14 = .ok (.getfield 56, 3) := by decide +kernel
theorem dX5_fineFor_17 : decode cX5_fineFor 17 = .ok (.goto 20, 3) := by decide +kernel
theorem dX5_fineFor_20 : decode cX5_fineFor 20 = .ok (.aload_n 0, 1) := by decide +kernel
theorem dX5_fineFor_21 : decode cX5_fineFor 21 = .ok (.getfield 62, 3) := by decide +kernel
theorem dX5_fineFor_24 : decode cX5_fineFor 24 = .ok (.iload_n 2, 1) := by decide +kernel
theorem dX5_fineFor_25 : decode cX5_fineFor 25 = .ok (.aload_n 1, 1) := by decide +kernel
theorem dX5_fineFor_26 : decode cX5_fineFor 26 = .ok (.getfield 117, 3) := by decide +kernel
theorem dX5_fineFor_29 : decode cX5_fineFor 29 = .ok (.aload_n 0, 1) := by decide +kernel
theorem dX5_fineFor_30 : decode cX5_fineFor 30 = .ok (.getfield 56, 3) := by decide +kernel
theorem dX5_fineFor_33 : decode cX5_fineFor 33 = .ok (.iconst 0, 1) := by decide +kernel
theorem dX5_fineFor_34 : decode cX5_fineFor 34 = .ok (.invokevirtual 99, 3) := by decide +kernel
theorem dX5_fineFor_37 : decode cX5_fineFor 37 = .ok (.ireturn, 1) := by decide +kernel
def wpX5_fineFor_0 (C : CT)  (i0 : Nat) (n1 : Nat)  (V : Mem) (Q : Option AV → Mem → Prop) : Prop :=
  (∀ z_1 : Int32, z_1 = (V 16 i0 2) → ((¬ z_1 = (-1000000005) → (cI C mX0_give [aR 1 0, aI z_1, aI (V 3 n1 4), aI (V 2 i0 14), aI 0] V (fun x_3 V_2 => Q (some (aI x_3)) V_2))) ∧ (z_1 = (-1000000005) → Q (some (aI (V 2 i0 14))) V)))
set_option maxRecDepth 10000 in
theorem okX5_fineFor_0 {d : Nat} {P : Option AV → Mem → Prop}  (i0 : Nat) (n1 : Nat) (h_i0 : i0 < 3) (h_n1 : n1 < 29)   (V : Mem)  (h : wpX5_fineFor_0 (Cl UX d)  i0 n1  V P) : Gq (Kp (d + 1) mX5_fineFor UX P) UX cX5_fineFor 3 RX5 0 [(0, aR 2 i0), (1, aR 3 n1)] [] V := by
  unfold wpX5_fineFor_0 at h
  refine go_aload_n (q := 0) dX5_fineFor_0 rfl rfl ?_
  refine go_getr fg_X5_25 dX5_fineFor_1 (mX (n := 3) (by decide) rfl (by omega)) ?_
  refine go_iconst (v := 2) dX5_fineFor_4 (by decide) ?_
  refine go_iald (r := 16) (n := 3) (j := 2) rfl (by decide) dX5_fineFor_5 (mX (n := 3) (by decide) rfl (by omega)) (by decide) (by decide) ?_
  refine nmI (fun z_1 e_z_1 => ?_)
  have h := h z_1 e_z_1
  refine go_istore_n (al1 := [(2, aI z_1), (0, aR 2 i0), (1, aR 3 n1)]) dX5_fineFor_6 rfl (by decide) rfl ?_
  refine go_iload_n (q := 0) dX5_fineFor_7 rfl rfl ?_
  refine go_ldc dX5_fineFor_8 ct_X5_24 ?_
  refine go_icmp_ne (tgt := 20) dX5_fineFor_10 (by decide) (fun c_4 => ?_) (fun c_4 => ?_)
  · have h := h.1 c_4
    refine go_aload_n (q := 1) dX5_fineFor_20 rfl rfl ?_
    refine go_getr fg_X5_62 dX5_fineFor_21 (mX (n := 3) (by decide) rfl (by omega)) ?_
    refine go_iload_n (q := 0) dX5_fineFor_24 rfl rfl ?_
    refine go_aload_n (q := 2) dX5_fineFor_25 rfl rfl ?_
    refine go_geti fg_X5_117 dX5_fineFor_26 (mX (n := 29) (by decide) rfl (by omega)) ?_
    refine go_aload_n (q := 1) dX5_fineFor_29 rfl rfl ?_
    refine go_geti fg_X5_56 dX5_fineFor_30 (mX (n := 3) (by decide) rfl (by omega)) ?_
    refine go_iconst (v := 0) dX5_fineFor_33 (by decide) ?_
    refine go_cVI (As := [aI z_1, aI (V 3 n1 4), aI (V 2 i0 14), aI 0]) (st := []) (r := 1) (i := 0) mv_X0_give dX5_fineFor_34 ml_X5_99 (hr_Kp (Nat.le_refl d)) rfl rfl (mX (n := 1) (by decide) rfl (by omega)) rfl rfl (Nat.le_of_ble_eq_true rfl) h (fun x_3 V_2 h => ?_)
    exact go_iret rfl dX5_fineFor_37 h
  · have h := h.2 c_4
    refine go_aload_n (q := 1) dX5_fineFor_13 rfl rfl ?_
    refine go_geti fg_X5_56 dX5_fineFor_14 (mX (n := 3) (by decide) rfl (by omega)) ?_
    refine go_goto (tgt := 37) dX5_fineFor_17 (by decide) ?_
    exact go_iret rfl dX5_fineFor_37 h
theorem clX5_fineFor {d : Nat} {P : Option AV → Mem → Prop}  (i0 : Nat) (n1 : Nat) (h_i0 : i0 < 3) (h_n1 : n1 < 29)  (V : Mem)  (h : wpX5_fineFor_0 (Cl UX d)  i0 n1  V P) : Cl UX (d + 1) mX5_fineFor [aR 2 i0, aR 3 n1] V P :=
  cl_of [(0, aR 2 i0), (1, aR 3 n1)] (by decide) (fun _ => Nat.le_of_ble_eq_true rfl) (fun _ => rfl) (okX5_fineFor_0 i0 n1 h_i0 h_n1  V  h)
theorem dX5_passHours_0 : decode cX5_passHours 0 = .ok (.iconst 0, 1) := by decide +kernel
theorem dX5_passHours_1 : decode cX5_passHours 1 = .ok (.istore_n 2, 1) := by decide +kernel
theorem dX5_passHours_2 : decode cX5_passHours 2 = .ok (.iconst 0, 1) := by decide +kernel
theorem dX5_passHours_3 : decode cX5_passHours 3 = .ok (.istore_n 3, 1) := by decide +kernel
theorem dX5_passHours_4 : decode cX5_passHours 4 = .ok (.iload_n 3, 1) := by decide +kernel
theorem dX5_passHours_5 : decode cX5_passHours 5 = .ok (.iload_n 1, 1) := by decide +kernel
theorem dX5_passHours_6 : decode cX5_passHours 6 = .ok (.if_icmp .ge 16, 3) := by decide +kernel
theorem dX5_passHours_9 : decode cX5_passHours 9 = .ok (.iload_n 2, 1) := by decide +kernel
theorem dX5_passHours_10 : decode cX5_passHours 10 = .ok (.aload_n 0, 1) := by decide +kernel
theorem dX5_passHours_11 : decode cX5_passHours 11 = .ok (.invokevirtual 120, 3) := by decide +kernel
theorem dX5_passHours_14 : decode cX5_passHours 14 = .ok (.iadd, 1) := by decide +kernel
theorem dX5_passHours_15 : decode cX5_passHours 15 = .ok (.istore_n 2, 1) := by decide +kernel
theorem dX5_passHours_16 : decode cX5_passHours 16 = .ok (.iinc 3 1, 3) := by decide +kernel
theorem dX5_passHours_19 : decode cX5_passHours 19 = .ok (.goto (-15), 3) := by decide +kernel
theorem dX5_passHours_22 : decode cX5_passHours 22 = .ok (.iload_n 2, 1) := by decide +kernel
theorem dX5_passHours_23 : decode cX5_passHours 23 = .ok (.ireturn, 1) := by decide +kernel
def wpX5_passHours_4 (C : CT) (I4 : Int32 → Int32 → Int32 → Mem → Prop) (i0 : Nat) (x1 : Int32) (x2 : Int32) (x3 : Int32) (V : Mem) (Q : Option AV → Mem → Prop) : Prop :=
  ((x1 ≤ x3 → Q (some (aI x2)) V) ∧ (¬ x1 ≤ x3 → (cI C mX5_passHour [aR 2 i0] V (fun x_2 V_1 => (∀ z_3 : Int32, z_3 = (x2 + x_2) → I4 x1 z_3 (x3 + 1) V_1)))))
set_option maxRecDepth 10000 in
theorem okX5_passHours_4 {d : Nat} {P : Option AV → Mem → Prop} {I4 : Int32 → Int32 → Int32 → Mem → Prop} (i0 : Nat) (h_i0 : i0 < 3) (x1 : Int32) (x2 : Int32) (x3 : Int32)  (V : Mem) (hk4 : ∀ (x1 : Int32) (x2 : Int32) (x3 : Int32), ∀ (V : Mem), I4 x1 x2 x3 V → Gq (Kp (d + 1) mX5_passHours UX P) UX cX5_passHours 4 RX5 4 [(0, aR 2 i0), (1, aI x1), (2, aI x2), (3, aI x3)] [] V) (h : wpX5_passHours_4 (Cl UX d) I4 i0 x1 x2 x3 V P) : Gq (Kp (d + 1) mX5_passHours UX P) UX cX5_passHours 4 RX5 4 [(0, aR 2 i0), (1, aI x1), (2, aI x2), (3, aI x3)] [] V := by
  unfold wpX5_passHours_4 at h
  refine go_iload_n (q := 3) dX5_passHours_4 rfl rfl ?_
  refine go_iload_n (q := 1) dX5_passHours_5 rfl rfl ?_
  refine go_icmp_ge (tgt := 22) dX5_passHours_6 (by decide) (fun c_4 => ?_) (fun c_4 => ?_)
  · have h := h.1 c_4
    refine go_iload_n (q := 2) dX5_passHours_22 rfl rfl ?_
    exact go_iret rfl dX5_passHours_23 h
  · have h := h.2 c_4
    refine go_iload_n (q := 2) dX5_passHours_9 rfl rfl ?_
    refine go_aload_n (q := 0) dX5_passHours_10 rfl rfl ?_
    refine go_cVI (As := []) (st := [aI x2]) (r := 2) (i := i0) mv_X5_passHour dX5_passHours_11 ml_X5_120 (hr_Kp (Nat.le_refl d)) rfl rfl (mX (n := 3) (by decide) rfl (by omega)) rfl rfl (Nat.le_of_ble_eq_true rfl) h (fun x_2 V_1 h => ?_)
    refine go_iadd dX5_passHours_14 ?_
    refine nmI (fun z_3 e_z_3 => ?_)
    have h := h z_3 e_z_3
    refine go_istore_n (al1 := [(2, aI z_3), (0, aR 2 i0), (1, aI x1), (3, aI x3)]) dX5_passHours_15 rfl (by decide) rfl ?_
    refine go_iinc (q := 3) (y := 1) (al1 := [(3, aI (x3 + 1)), (2, aI z_3), (0, aR 2 i0), (1, aI x1)]) dX5_passHours_16 rfl (by decide) (by decide) rfl ?_
    refine go_goto (tgt := 4) dX5_passHours_19 (by decide) ?_
    refine go_sub (al1 := [(0, aR 2 i0), (1, aI x1), (2, aI z_3), (3, aI (x3 + 1))]) [2, 3, 1, 0] rfl ?_
    exact hk4 x1 z_3 (x3 + 1)  V_1 h
def wpX5_passHours_0 (C : CT) (I4 : Int32 → Int32 → Int32 → Mem → Prop) (i0 : Nat) (x1 : Int32) (V : Mem) (Q : Option AV → Mem → Prop) : Prop :=
  I4 x1 0 0 V
set_option maxRecDepth 10000 in
theorem okX5_passHours_0 {d : Nat} {P : Option AV → Mem → Prop} {I4 : Int32 → Int32 → Int32 → Mem → Prop} (i0 : Nat) (h_i0 : i0 < 3) (x1 : Int32)  (V : Mem) (hk4 : ∀ (x1 : Int32) (x2 : Int32) (x3 : Int32), ∀ (V : Mem), I4 x1 x2 x3 V → Gq (Kp (d + 1) mX5_passHours UX P) UX cX5_passHours 4 RX5 4 [(0, aR 2 i0), (1, aI x1), (2, aI x2), (3, aI x3)] [] V) (h : wpX5_passHours_0 (Cl UX d) I4 i0 x1 V P) : Gq (Kp (d + 1) mX5_passHours UX P) UX cX5_passHours 4 RX5 0 [(0, aR 2 i0), (1, aI x1)] [] V := by
  unfold wpX5_passHours_0 at h
  refine go_iconst (v := 0) dX5_passHours_0 (by decide) ?_
  refine go_istore_n (al1 := [(2, aI 0), (0, aR 2 i0), (1, aI x1)]) dX5_passHours_1 rfl (by decide) rfl ?_
  refine go_iconst (v := 0) dX5_passHours_2 (by decide) ?_
  refine go_istore_n (al1 := [(3, aI 0), (2, aI 0), (0, aR 2 i0), (1, aI x1)]) dX5_passHours_3 rfl (by decide) rfl ?_
  refine go_sub (al1 := [(0, aR 2 i0), (1, aI x1), (2, aI 0), (3, aI 0)]) [2, 3, 1, 0] rfl ?_
  exact hk4 x1 0 0  V h
theorem clX5_passHours {d : Nat} {P : Option AV → Mem → Prop} {I4 : Int32 → Int32 → Int32 → Mem → Prop} (i0 : Nat) (h_i0 : i0 < 3) (x1 : Int32) (V : Mem) (hk4 : ∀ (x1 : Int32) (x2 : Int32) (x3 : Int32), ∀ (V : Mem), I4 x1 x2 x3 V → Gq (Kp (d + 1) mX5_passHours UX P) UX cX5_passHours 4 RX5 4 [(0, aR 2 i0), (1, aI x1), (2, aI x2), (3, aI x3)] [] V) (h : wpX5_passHours_0 (Cl UX d) I4 i0 x1 V P) : Cl UX (d + 1) mX5_passHours [aR 2 i0, aI x1] V P :=
  cl_of [(0, aR 2 i0), (1, aI x1)] (by decide) (fun _ => Nat.le_of_ble_eq_true rfl) (fun _ => rfl) (okX5_passHours_0 i0 h_i0 x1 V hk4 h)
theorem dX5_passHour_0 : decode cX5_passHour 0 = .ok (.aload_n 0, 1) := by decide +kernel
theorem dX5_passHour_1 : decode cX5_passHour 1 = .ok (.getfield 17, 3) := by decide +kernel
theorem dX5_passHour_4 : decode cX5_passHour 4 = .ok (.aload_n 0, 1) := by decide +kernel
theorem dX5_passHour_5 : decode cX5_passHour 5 = .ok (.invokevirtual 82, 3) := by decide +kernel
theorem dX5_passHour_8 : decode cX5_passHour 8 = .ok (.iaload, 1) := by decide +kernel
theorem dX5_passHour_9 : decode cX5_passHour 9 = .ok (.istore_n 1, 1) := by decide +kernel
theorem dX5_passHour_10 : decode cX5_passHour 10 = .ok (.aload_n 0, 1) := by decide +kernel
theorem dX5_passHour_11 : decode cX5_passHour 11 = .ok (.getfield 21, 3) := by decide +kernel
theorem dX5_passHour_14 : decode cX5_passHour 14 = .ok (.aload_n 0, 1) := by decide +kernel
theorem dX5_passHour_15 : decode cX5_passHour 15 = .ok (.invokevirtual 82, 3) := by decide +kernel
theorem dX5_passHour_18 : decode cX5_passHour 18 = .ok (.iaload, 1) := by decide +kernel
theorem dX5_passHour_19 : decode cX5_passHour 19 = .ok (.istore_n 2, 1) := by decide +kernel
theorem dX5_passHour_20 : decode cX5_passHour 20 = .ok (.iload_n 1, 1) := by decide +kernel
theorem dX5_passHour_21 : decode cX5_passHour 21 = .ok (.ifCond .le 11, 3) := by decide +kernel
theorem dX5_passHour_24 : decode cX5_passHour 24 = .ok (.aload_n 0, 1) := by decide +kernel
theorem dX5_passHour_25 : decode cX5_passHour 25 = .ok (.iload_n 2, 1) := by decide +kernel
theorem dX5_passHour_26 : decode cX5_passHour 26 = .ok (.invokevirtual 123, 3) := by decide +kernel
theorem dX5_passHour_29 : decode cX5_passHour 29 = .ok (.goto 20, 3) := by decide +kernel
theorem dX5_passHour_32 : decode cX5_passHour 32 = .ok (.iload_n 1, 1) := by decide +kernel
theorem dX5_passHour_33 : decode cX5_passHour 33 = .ok (.ifCond .ge 11, 3) := by decide +kernel
theorem dX5_passHour_36 : decode cX5_passHour 36 = .ok (.aload_n 0, 1) := by decide +kernel
theorem dX5_passHour_37 : decode cX5_passHour 37 = .ok (.iload_n 2, 1) := by decide +kernel
theorem dX5_passHour_38 : decode cX5_passHour 38 = .ok (.invokevirtual 127, 3) := by decide +kernel
theorem dX5_passHour_41 : decode cX5_passHour 41 = .ok (.goto 8, 3) := by decide +kernel
theorem dX5_passHour_44 : decode cX5_passHour 44 = .ok (.aload_n 0, 1) := by decide +kernel
theorem dX5_passHour_45 : decode cX5_passHour 45 = .ok (.iload_n 2, 1) := by decide +kernel
theorem dX5_passHour_46 : decode cX5_passHour 46 = .ok (.invokevirtual 130, 3) := by decide +kernel
theorem dX5_passHour_49 : decode cX5_passHour 49 = .ok (.aload_n 0, 1) := by decide +kernel
theorem dX5_passHour_50 : decode cX5_passHour 50 = .ok (.invokevirtual 133, 3) := by decide +kernel
theorem dX5_passHour_53 : decode cX5_passHour 53 = .ok (.istore_n 3, 1) := by decide +kernel
theorem dX5_passHour_54 : decode cX5_passHour 54 = .ok (.aload_n 0, 1) := by decide +kernel
theorem dX5_passHour_55 : decode cX5_passHour 55 = .ok (.invokevirtual 136, 3) := by decide +kernel
theorem dX5_passHour_58 : decode cX5_passHour 58 = .ok (.iload_n 1, 1) := by decide +kernel
theorem dX5_passHour_59 : decode cX5_passHour 59 = .ok (.ifCond .le 37, 3) := by decide +kernel
theorem dX5_passHour_62 : decode cX5_passHour 62 = .ok (.aload_n 0, 1) := by decide +kernel
theorem dX5_passHour_63 : decode cX5_passHour 63 = .ok (.getfield 44, 3) := by decide +kernel
theorem dX5_passHour_66 : decode cX5_passHour 66 = .ok (.iconst 5, 1) := by decide +kernel
theorem dX5_passHour_67 : decode cX5_passHour 67 = .ok (.iload_n 1, 1) := by decide +kernel
theorem dX5_passHour_68 : decode cX5_passHour 68 = .ok (.imul, 1) := by decide +kernel
theorem dX5_passHour_69 : decode cX5_passHour 69 = .ok (.invokestatic 105, 3) := by decide +kernel
theorem dX5_passHour_72 : decode cX5_passHour 72 = .ok (.istore 4, 2) := by decide +kernel
theorem dX5_passHour_74 : decode cX5_passHour 74 = .ok (.aload_n 0, 1) := by decide +kernel
theorem dX5_passHour_75 : decode cX5_passHour 75 = .ok (.dup, 1) := by decide +kernel
theorem dX5_passHour_76 : decode cX5_passHour 76 = .ok (.getfield 44, 3) := by decide +kernel
theorem dX5_passHour_79 : decode cX5_passHour 79 = .ok (.iload 4, 2) := by decide +kernel
theorem dX5_passHour_81 : decode cX5_passHour 81 = .ok (.isub, 1) := by decide +kernel
theorem dX5_passHour_82 : decode cX5_passHour 82 = .ok (.putfield 44, 3) := by decide +kernel
theorem dX5_passHour_85 : decode cX5_passHour 85 = .ok (.aload_n 0, 1) := by decide +kernel
theorem dX5_passHour_86 : decode cX5_passHour 86 = .ok (.dup, 1) := by decide +kernel
theorem dX5_passHour_87 : decode cX5_passHour 87 = .ok (.getfield 47, 3) := by decide +kernel
theorem dX5_passHour_90 : decode cX5_passHour 90 = .ok (.iload 4, 2) := by decide +kernel
theorem dX5_passHour_92 : decode cX5_passHour 92 = .ok (.iadd, 1) := by decide +kernel
theorem dX5_passHour_93 : decode cX5_passHour 93 = .ok (.putfield 47, 3) := by decide +kernel
theorem dX5_passHour_96 : decode cX5_passHour 96 = .ok (.aload_n 0, 1) := by decide +kernel
theorem dX5_passHour_97 : decode cX5_passHour 97 = .ok (.dup, 1) := by decide +kernel
theorem dX5_passHour_98 : decode cX5_passHour 98 = .ok (.getfield 38, 3) := by decide +kernel
theorem dX5_passHour_101 : decode cX5_passHour 101 = .ok (.iconst 1, 1) := by decide +kernel
theorem dX5_passHour_102 : decode cX5_passHour 102 = .ok (.iadd, 1) := by decide +kernel
theorem dX5_passHour_103 : decode cX5_passHour 103 = .ok (.putfield 38, 3) := by decide +kernel
theorem dX5_passHour_106 : decode cX5_passHour 106 = .ok (.iload_n 3, 1) := by decide +kernel
theorem dX5_passHour_107 : decode cX5_passHour 107 = .ok (.ireturn, 1) := by decide +kernel
def wpX5_passHour_96 (C : CT)  (i0 : Nat) (x1 : Int32) (x2 : Int32) (x3 : Int32) (V : Mem) (Q : Option AV → Mem → Prop) : Prop :=
  (∀ V_1 : Mem, V_1 = mu V 2 i0 8 ((V 2 i0 8) + 1) → Q (some (aI x3)) V_1)
set_option maxRecDepth 10000 in
theorem okX5_passHour_96 {d : Nat} {P : Option AV → Mem → Prop}  (i0 : Nat) (h_i0 : i0 < 3) (x1 : Int32) (x2 : Int32) (x3 : Int32)  (V : Mem)  (h : wpX5_passHour_96 (Cl UX d)  i0 x1 x2 x3 V P) : Gq (Kp (d + 1) mX5_passHour UX P) UX cX5_passHour 5 RX5 96 [(0, aR 2 i0), (1, aI x1), (2, aI x2), (3, aI x3)] [] V := by
  unfold wpX5_passHour_96 at h
  refine go_aload_n (q := 0) dX5_passHour_96 rfl rfl ?_
  refine go_dup dX5_passHour_97 rfl ?_
  refine go_geti fg_X5_38 dX5_passHour_98 (mX (n := 3) (by decide) rfl (by omega)) ?_
  refine go_iconst (v := 1) dX5_passHour_101 (by decide) ?_
  refine go_iadd dX5_passHour_102 ?_
  refine go_puti fp_X5_38 dX5_passHour_103 (mX (n := 3) (by decide) rfl (by omega)) ?_
  refine nmV (fun V_1 e_V_1 => ?_)
  have h := h V_1 e_V_1
  refine go_iload_n (q := 3) dX5_passHour_106 rfl rfl ?_
  exact go_iret rfl dX5_passHour_107 h
def wpX5_passHour_49 (C : CT)  (i0 : Nat) (x1 : Int32) (x2 : Int32) (V : Mem) (Q : Option AV → Mem → Prop) : Prop :=
  (cI C mX5_letSlide [aR 2 i0] V (fun x_2 V_1 => (cV C mX5_letMelt [aR 2 i0] V_1 (fun V_3 => ((x1 ≤ 0 → wpX5_passHour_96 C  i0 x1 x2 x_2 V_3 Q) ∧ (¬ x1 ≤ 0 → (∀ z_4 : Int32, z_4 = (if (5 * x1) < (V_3 2 i0 10) then (5 * x1) else (V_3 2 i0 10)) → (∀ V_5 : Mem, V_5 = mu V_3 2 i0 10 ((V_3 2 i0 10) - z_4) → (∀ V_6 : Mem, V_6 = mu V_5 2 i0 11 ((V_5 2 i0 11) + z_4) → wpX5_passHour_96 C  i0 x1 x2 x_2 V_6 Q)))))))))
set_option maxRecDepth 10000 in
theorem okX5_passHour_49 {d : Nat} {P : Option AV → Mem → Prop}  (i0 : Nat) (h_i0 : i0 < 3) (x1 : Int32) (x2 : Int32)  (V : Mem)  (h : wpX5_passHour_49 (Cl UX d)  i0 x1 x2 V P) : Gq (Kp (d + 1) mX5_passHour UX P) UX cX5_passHour 5 RX5 49 [(0, aR 2 i0), (1, aI x1), (2, aI x2)] [] V := by
  unfold wpX5_passHour_49 at h
  refine go_aload_n (q := 0) dX5_passHour_49 rfl rfl ?_
  refine go_cVI (As := []) (st := []) (r := 2) (i := i0) mv_X5_letSlide dX5_passHour_50 ml_X5_133 (hr_Kp (Nat.le_refl d)) rfl rfl (mX (n := 3) (by decide) rfl (by omega)) rfl rfl (Nat.le_of_ble_eq_true rfl) h (fun x_2 V_1 h => ?_)
  refine go_istore_n (al1 := [(3, aI x_2), (0, aR 2 i0), (1, aI x1), (2, aI x2)]) dX5_passHour_53 rfl (by decide) rfl ?_
  refine go_aload_n (q := 1) dX5_passHour_54 rfl rfl ?_
  refine go_cVV (As := []) (st := []) (r := 2) (i := i0) mv_X5_letMelt dX5_passHour_55 ml_X5_136 (hr_Kp (Nat.le_refl d)) rfl rfl (mX (n := 3) (by decide) rfl (by omega)) rfl rfl (Nat.le_of_ble_eq_true rfl) h (fun V_3 h => ?_)
  refine go_iload_n (q := 2) dX5_passHour_58 rfl rfl ?_
  refine go_if_le (tgt := 96) dX5_passHour_59 (by decide) (fun c_7 => ?_) (fun c_7 => ?_)
  · have h := h.1 c_7
    refine go_sub (al1 := [(0, aR 2 i0), (1, aI x1), (2, aI x2), (3, aI x_2)]) [1, 2, 3, 0] rfl ?_
    exact okX5_passHour_96 i0 (by omega) x1 x2 x_2  V_3  h
  · have h := h.2 c_7
    refine go_aload_n (q := 1) dX5_passHour_62 rfl rfl ?_
    refine go_geti fg_X5_44 dX5_passHour_63 (mX (n := 3) (by decide) rfl (by omega)) ?_
    refine go_iconst (v := 5) dX5_passHour_66 (by decide) ?_
    refine go_iload_n (q := 2) dX5_passHour_67 rfl rfl ?_
    refine go_imul dX5_passHour_68 ?_
    refine go_mmin ml_X5_105 mt_min1 mt_ini mt_min2 (hr_Kp (Nat.zero_le d)) (Nat.le_of_ble_eq_true rfl) dX5_passHour_69 ?_
    refine nmI (fun z_4 e_z_4 => ?_)
    have h := h z_4 e_z_4
    refine go_istore (al1 := [(4, aI z_4), (3, aI x_2), (0, aR 2 i0), (1, aI x1), (2, aI x2)]) dX5_passHour_72 (by decide) rfl ?_
    refine go_aload_n (q := 2) dX5_passHour_74 rfl rfl ?_
    refine go_dup dX5_passHour_75 rfl ?_
    refine go_geti fg_X5_44 dX5_passHour_76 (mX (n := 3) (by decide) rfl (by omega)) ?_
    refine go_iload (q := 0) dX5_passHour_79 rfl ?_
    refine go_isub dX5_passHour_81 ?_
    refine go_puti fp_X5_44 dX5_passHour_82 (mX (n := 3) (by decide) rfl (by omega)) ?_
    refine nmV (fun V_5 e_V_5 => ?_)
    have h := h V_5 e_V_5
    refine go_aload_n (q := 2) dX5_passHour_85 rfl rfl ?_
    refine go_dup dX5_passHour_86 rfl ?_
    refine go_geti fg_X5_47 dX5_passHour_87 (mX (n := 3) (by decide) rfl (by omega)) ?_
    refine go_iload (q := 0) dX5_passHour_90 rfl ?_
    refine go_iadd dX5_passHour_92 ?_
    refine go_puti fp_X5_47 dX5_passHour_93 (mX (n := 3) (by decide) rfl (by omega)) ?_
    refine nmV (fun V_6 e_V_6 => ?_)
    have h := h V_6 e_V_6
    refine go_sub (al1 := [(0, aR 2 i0), (1, aI x1), (2, aI x2), (3, aI x_2)]) [2, 3, 4, 1] rfl ?_
    exact okX5_passHour_96 i0 (by omega) x1 x2 x_2  V_6  h
def wpX5_passHour_0 (C : CT)  (i0 : Nat)  (V : Mem) (Q : Option AV → Mem → Prop) : Prop :=
  (cI C mX5_hourOfDay [aR 2 i0] V (fun x_2 V_1 => (∃ j_3 : Nat, x_2 = nI j_3 ∧ j_3 < 24 ∧ (∀ z_4 : Int32, z_4 = (V_1 14 i0 j_3) → (cI C mX5_hourOfDay [aR 2 i0] V_1 (fun x_6 V_5 => (∃ j_7 : Nat, x_6 = nI j_7 ∧ j_7 < 24 ∧ (∀ z_8 : Int32, z_8 = (V_5 15 i0 j_7) → ((z_4 ≤ 0 → ((0 ≤ z_4 → (cV C mX5_letHail [aR 2 i0, aI z_8] V_5 (fun V_9 => wpX5_passHour_49 C  i0 z_4 z_8 V_9 Q))) ∧ (¬ 0 ≤ z_4 → (cV C mX5_letSnow [aR 2 i0, aI z_8] V_5 (fun V_10 => wpX5_passHour_49 C  i0 z_4 z_8 V_10 Q))))) ∧ (¬ z_4 ≤ 0 → (cV C mX5_letRain [aR 2 i0, aI z_8] V_5 (fun V_12 => wpX5_passHour_49 C  i0 z_4 z_8 V_12 Q))))))))))))
set_option maxRecDepth 10000 in
theorem okX5_passHour_0 {d : Nat} {P : Option AV → Mem → Prop}  (i0 : Nat) (h_i0 : i0 < 3)   (V : Mem)  (h : wpX5_passHour_0 (Cl UX d)  i0  V P) : Gq (Kp (d + 1) mX5_passHour UX P) UX cX5_passHour 5 RX5 0 [(0, aR 2 i0)] [] V := by
  unfold wpX5_passHour_0 at h
  refine go_aload_n (q := 0) dX5_passHour_0 rfl rfl ?_
  refine go_getr fg_X5_17 dX5_passHour_1 (mX (n := 3) (by decide) rfl (by omega)) ?_
  refine go_aload_n (q := 0) dX5_passHour_4 rfl rfl ?_
  refine go_cVI (As := []) (st := [aR 14 i0]) (r := 2) (i := i0) mv_X5_hourOfDay dX5_passHour_5 ml_X5_82 (hr_Kp (Nat.le_refl d)) rfl rfl (mX (n := 3) (by decide) rfl (by omega)) rfl rfl (Nat.le_of_ble_eq_true rfl) h (fun x_2 V_1 h => ?_)
  obtain ⟨j_3, e_j_3, l_j_3, h⟩ := h
  refine go_iald (r := 14) (n := 24) (j := j_3) rfl (by decide) dX5_passHour_8 (mX (n := 3) (by decide) rfl (by omega)) e_j_3 l_j_3 ?_
  refine nmI (fun z_4 e_z_4 => ?_)
  have h := h z_4 e_z_4
  refine go_istore_n (al1 := [(1, aI z_4), (0, aR 2 i0)]) dX5_passHour_9 rfl (by decide) rfl ?_
  refine go_aload_n (q := 1) dX5_passHour_10 rfl rfl ?_
  refine go_getr fg_X5_21 dX5_passHour_11 (mX (n := 3) (by decide) rfl (by omega)) ?_
  refine go_aload_n (q := 1) dX5_passHour_14 rfl rfl ?_
  refine go_cVI (As := []) (st := [aR 15 i0]) (r := 2) (i := i0) mv_X5_hourOfDay dX5_passHour_15 ml_X5_82 (hr_Kp (Nat.le_refl d)) rfl rfl (mX (n := 3) (by decide) rfl (by omega)) rfl rfl (Nat.le_of_ble_eq_true rfl) h (fun x_6 V_5 h => ?_)
  obtain ⟨j_7, e_j_7, l_j_7, h⟩ := h
  refine go_iald (r := 15) (n := 24) (j := j_7) rfl (by decide) dX5_passHour_18 (mX (n := 3) (by decide) rfl (by omega)) e_j_7 l_j_7 ?_
  refine nmI (fun z_8 e_z_8 => ?_)
  have h := h z_8 e_z_8
  refine go_istore_n (al1 := [(2, aI z_8), (1, aI z_4), (0, aR 2 i0)]) dX5_passHour_19 rfl (by decide) rfl ?_
  refine go_iload_n (q := 1) dX5_passHour_20 rfl rfl ?_
  refine go_if_le (tgt := 32) dX5_passHour_21 (by decide) (fun c_13 => ?_) (fun c_13 => ?_)
  · have h := h.1 c_13
    refine go_iload_n (q := 1) dX5_passHour_32 rfl rfl ?_
    refine go_if_ge (tgt := 44) dX5_passHour_33 (by decide) (fun c_11 => ?_) (fun c_11 => ?_)
    · have h := h.1 c_11
      refine go_aload_n (q := 2) dX5_passHour_44 rfl rfl ?_
      refine go_iload_n (q := 0) dX5_passHour_45 rfl rfl ?_
      refine go_cVV (As := [aI z_8]) (st := []) (r := 2) (i := i0) mv_X5_letHail dX5_passHour_46 ml_X5_130 (hr_Kp (Nat.le_refl d)) rfl rfl (mX (n := 3) (by decide) rfl (by omega)) rfl rfl (Nat.le_of_ble_eq_true rfl) h (fun V_9 h => ?_)
      refine go_sub (al1 := [(0, aR 2 i0), (1, aI z_4), (2, aI z_8)]) [2, 1, 0] rfl ?_
      exact okX5_passHour_49 i0 (by omega) z_4 z_8  V_9  h
    · have h := h.2 c_11
      refine go_aload_n (q := 2) dX5_passHour_36 rfl rfl ?_
      refine go_iload_n (q := 0) dX5_passHour_37 rfl rfl ?_
      refine go_cVV (As := [aI z_8]) (st := []) (r := 2) (i := i0) mv_X5_letSnow dX5_passHour_38 ml_X5_127 (hr_Kp (Nat.le_refl d)) rfl rfl (mX (n := 3) (by decide) rfl (by omega)) rfl rfl (Nat.le_of_ble_eq_true rfl) h (fun V_10 h => ?_)
      refine go_goto (tgt := 49) dX5_passHour_41 (by decide) ?_
      refine go_sub (al1 := [(0, aR 2 i0), (1, aI z_4), (2, aI z_8)]) [2, 1, 0] rfl ?_
      exact okX5_passHour_49 i0 (by omega) z_4 z_8  V_10  h
  · have h := h.2 c_13
    refine go_aload_n (q := 2) dX5_passHour_24 rfl rfl ?_
    refine go_iload_n (q := 0) dX5_passHour_25 rfl rfl ?_
    refine go_cVV (As := [aI z_8]) (st := []) (r := 2) (i := i0) mv_X5_letRain dX5_passHour_26 ml_X5_123 (hr_Kp (Nat.le_refl d)) rfl rfl (mX (n := 3) (by decide) rfl (by omega)) rfl rfl (Nat.le_of_ble_eq_true rfl) h (fun V_12 h => ?_)
    refine go_goto (tgt := 49) dX5_passHour_29 (by decide) ?_
    refine go_sub (al1 := [(0, aR 2 i0), (1, aI z_4), (2, aI z_8)]) [2, 1, 0] rfl ?_
    exact okX5_passHour_49 i0 (by omega) z_4 z_8  V_12  h
theorem clX5_passHour {d : Nat} {P : Option AV → Mem → Prop}  (i0 : Nat) (h_i0 : i0 < 3)  (V : Mem)  (h : wpX5_passHour_0 (Cl UX d)  i0  V P) : Cl UX (d + 1) mX5_passHour [aR 2 i0] V P :=
  cl_of [(0, aR 2 i0)] (by decide) (fun _ => Nat.le_of_ble_eq_true rfl) (fun _ => rfl) (okX5_passHour_0 i0 h_i0  V  h)
theorem dX5_letRain_0 : decode cX5_letRain 0 = .ok (.iconst 0, 1) := by decide +kernel
theorem dX5_letRain_1 : decode cX5_letRain 1 = .ok (.istore_n 2, 1) := by decide +kernel
theorem dX5_letRain_2 : decode cX5_letRain 2 = .ok (.iload_n 2, 1) := by decide +kernel
theorem dX5_letRain_3 : decode cX5_letRain 3 = .ok (.aload_n 0, 1) := by decide +kernel
theorem dX5_letRain_4 : decode cX5_letRain 4 = .ok (.getfield 32, 3) := by decide +kernel
theorem dX5_letRain_7 : decode cX5_letRain 7 = .ok (.if_icmp .ge 38, 3) := by decide +kernel
theorem dX5_letRain_10 : decode cX5_letRain 10 = .ok (.aload_n 0, 1) := by decide +kernel
theorem dX5_letRain_11 : decode cX5_letRain 11 = .ok (.dup, 1) := by decide +kernel
theorem dX5_letRain_12 : decode cX5_letRain 12 = .ok (.getfield 53, 3) := by decide +kernel
theorem dX5_letRain_15 : decode cX5_letRain 15 = .ok (.aload_n 0, 1) := by decide +kernel
theorem dX5_letRain_16 : decode cX5_letRain 16 = .ok (.getfield 11, 3) := by decide +kernel
theorem dX5_letRain_19 : decode cX5_letRain 19 = .ok (.iload_n 2, 1) := by decide +kernel
theorem dX5_letRain_20 : decode cX5_letRain 20 = .ok (.aaload, 1) := by decide +kernel
theorem dX5_letRain_21 : decode cX5_letRain 21 = .ok (.iload_n 1, 1) := by decide +kernel
theorem dX5_letRain_22 : decode cX5_letRain 22 = .ok (.aload_n 0, 1) := by decide +kernel
theorem dX5_letRain_23 : decode cX5_letRain 23 = .ok (.getfield 11, 3) := by decide +kernel
theorem dX5_letRain_26 : decode cX5_letRain 26 = .ok (.iload_n 2, 1) := by decide +kernel
theorem dX5_letRain_27 : decode cX5_letRain 27 = .ok (.aaload, 1) := by decide +kernel
theorem dX5_letRain_28 : decode cX5_letRain 28 = .ok (.getfield 93, 3) := by decide +kernel
theorem dX5_letRain_31 : decode cX5_letRain 31 = .ok (.imul, 1) := by decide +kernel
theorem dX5_letRain_32 : decode cX5_letRain 32 = .ok (.invokevirtual 139, 3) := by decide +kernel
theorem dX5_letRain_35 : decode cX5_letRain 35 = .ok (.iadd, 1) := by decide +kernel
theorem dX5_letRain_36 : decode cX5_letRain 36 = .ok (.putfield 53, 3) := by decide +kernel
theorem dX5_letRain_39 : decode cX5_letRain 39 = .ok (.iinc 2 1, 3) := by decide +kernel
theorem dX5_letRain_42 : decode cX5_letRain 42 = .ok (.goto (-40), 3) := by decide +kernel
theorem dX5_letRain_45 : decode cX5_letRain 45 = .ok (.aload_n 0, 1) := by decide +kernel
theorem dX5_letRain_46 : decode cX5_letRain 46 = .ok (.dup, 1) := by decide +kernel
theorem dX5_letRain_47 : decode cX5_letRain 47 = .ok (.getfield 47, 3) := by decide +kernel
theorem dX5_letRain_50 : decode cX5_letRain 50 = .ok (.bipush 10, 2) := by decide +kernel
theorem dX5_letRain_52 : decode cX5_letRain 52 = .ok (.iload_n 1, 1) := by decide +kernel
theorem dX5_letRain_53 : decode cX5_letRain 53 = .ok (.imul, 1) := by decide +kernel
theorem dX5_letRain_54 : decode cX5_letRain 54 = .ok (.iadd, 1) := by decide +kernel
theorem dX5_letRain_55 : decode cX5_letRain 55 = .ok (.putfield 47, 3) := by decide +kernel
theorem dX5_letRain_58 : decode cX5_letRain 58 = .ok (.return_, 1) := by decide +kernel
def wpX5_letRain_2 (C : CT) (I2 : Int32 → Int32 → Mem → Prop) (i0 : Nat) (x1 : Int32) (x2 : Int32) (V : Mem) (Q : Option AV → Mem → Prop) : Prop :=
  (((V 2 i0 6) ≤ x2 → (∀ V_1 : Mem, V_1 = mu V 2 i0 11 ((V 2 i0 11) + (10 * x1)) → Q none V_1)) ∧ (¬ (V 2 i0 6) ≤ x2 → (∃ j_2 : Nat, x2 = nI j_2 ∧ j_2 < 8 ∧ (cI C mX2_takeWater [aR 3 (8 * i0 + j_2), aI (x1 * (V 3 (8 * i0 + j_2) 1))] V (fun x_4 V_3 => (∀ V_5 : Mem, V_5 = mu V_3 2 i0 13 ((V 2 i0 13) + x_4) → I2 x1 (x2 + 1) V_5))))))
set_option maxRecDepth 10000 in
theorem okX5_letRain_2 {d : Nat} {P : Option AV → Mem → Prop} {I2 : Int32 → Int32 → Mem → Prop} (i0 : Nat) (h_i0 : i0 < 3) (x1 : Int32) (x2 : Int32)  (V : Mem) (hk2 : ∀ (x1 : Int32) (x2 : Int32), ∀ (V : Mem), I2 x1 x2 V → Gq (Kp (d + 1) mX5_letRain UX P) UX cX5_letRain 3 RX5 2 [(0, aR 2 i0), (1, aI x1), (2, aI x2)] [] V) (h : wpX5_letRain_2 (Cl UX d) I2 i0 x1 x2 V P) : Gq (Kp (d + 1) mX5_letRain UX P) UX cX5_letRain 3 RX5 2 [(0, aR 2 i0), (1, aI x1), (2, aI x2)] [] V := by
  unfold wpX5_letRain_2 at h
  refine go_iload_n (q := 2) dX5_letRain_2 rfl rfl ?_
  refine go_aload_n (q := 0) dX5_letRain_3 rfl rfl ?_
  refine go_geti fg_X5_32 dX5_letRain_4 (mX (n := 3) (by decide) rfl (by omega)) ?_
  refine go_icmp_ge (tgt := 45) dX5_letRain_7 (by decide) (fun c_6 => ?_) (fun c_6 => ?_)
  · have h := h.1 c_6
    refine go_aload_n (q := 0) dX5_letRain_45 rfl rfl ?_
    refine go_dup dX5_letRain_46 rfl ?_
    refine go_geti fg_X5_47 dX5_letRain_47 (mX (n := 3) (by decide) rfl (by omega)) ?_
    refine go_bipush (v := 10) dX5_letRain_50 (by decide) ?_
    refine go_iload_n (q := 1) dX5_letRain_52 rfl rfl ?_
    refine go_imul dX5_letRain_53 ?_
    refine go_iadd dX5_letRain_54 ?_
    refine go_puti fp_X5_47 dX5_letRain_55 (mX (n := 3) (by decide) rfl (by omega)) ?_
    refine nmV (fun V_1 e_V_1 => ?_)
    have h := h V_1 e_V_1
    exact go_vret rfl dX5_letRain_58 h
  · have h := h.2 c_6
    refine go_aload_n (q := 0) dX5_letRain_10 rfl rfl ?_
    refine go_dup dX5_letRain_11 rfl ?_
    refine go_geti fg_X5_53 dX5_letRain_12 (mX (n := 3) (by decide) rfl (by omega)) ?_
    refine go_aload_n (q := 0) dX5_letRain_15 rfl rfl ?_
    refine go_getr fg_X5_11 dX5_letRain_16 (mX (n := 3) (by decide) rfl (by omega)) ?_
    refine go_iload_n (q := 2) dX5_letRain_19 rfl rfl ?_
    obtain ⟨j_2, e_j_2, l_j_2, h⟩ := h
    refine go_aald (r := 13) (n := 8) (j := j_2) rfl rfl (by decide) dX5_letRain_20 (mX (n := 3) (by decide) rfl (by omega)) e_j_2 l_j_2 ?_
    refine go_iload_n (q := 1) dX5_letRain_21 rfl rfl ?_
    refine go_aload_n (q := 0) dX5_letRain_22 rfl rfl ?_
    refine go_getr fg_X5_11 dX5_letRain_23 (mX (n := 3) (by decide) rfl (by omega)) ?_
    refine go_iload_n (q := 2) dX5_letRain_26 rfl rfl ?_
    refine go_aald (r := 13) (n := 8) (j := j_2) rfl rfl (by decide) dX5_letRain_27 (mX (n := 3) (by decide) rfl (by omega)) e_j_2 (by omega) ?_
    refine go_geti fg_X5_93 dX5_letRain_28 (mX (n := 29) (by decide) rfl (by omega)) ?_
    refine go_imul dX5_letRain_31 ?_
    refine go_cVI (As := [aI (x1 * (V 3 (8 * i0 + j_2) 1))]) (st := [aI (V 2 i0 13), aR 2 i0]) (r := 3) (i := (8 * i0 + j_2)) mv_X2_takeWater dX5_letRain_32 ml_X5_139 (hr_Kp (Nat.le_refl d)) rfl rfl (mX (n := 29) (by decide) rfl (by omega)) rfl rfl (Nat.le_of_ble_eq_true rfl) h (fun x_4 V_3 h => ?_)
    refine go_iadd dX5_letRain_35 ?_
    refine go_puti fp_X5_53 dX5_letRain_36 (mX (n := 3) (by decide) rfl (by omega)) ?_
    refine nmV (fun V_5 e_V_5 => ?_)
    have h := h V_5 e_V_5
    refine go_iinc (q := 2) (y := 1) (al1 := [(2, aI (x2 + 1)), (0, aR 2 i0), (1, aI x1)]) dX5_letRain_39 rfl (by decide) (by decide) rfl ?_
    refine go_goto (tgt := 2) dX5_letRain_42 (by decide) ?_
    refine go_sub (al1 := [(0, aR 2 i0), (1, aI x1), (2, aI (x2 + 1))]) [1, 2, 0] rfl ?_
    exact hk2 x1 (x2 + 1)  V_5 h
def wpX5_letRain_0 (C : CT) (I2 : Int32 → Int32 → Mem → Prop) (i0 : Nat) (x1 : Int32) (V : Mem) (Q : Option AV → Mem → Prop) : Prop :=
  I2 x1 0 V
set_option maxRecDepth 10000 in
theorem okX5_letRain_0 {d : Nat} {P : Option AV → Mem → Prop} {I2 : Int32 → Int32 → Mem → Prop} (i0 : Nat) (h_i0 : i0 < 3) (x1 : Int32)  (V : Mem) (hk2 : ∀ (x1 : Int32) (x2 : Int32), ∀ (V : Mem), I2 x1 x2 V → Gq (Kp (d + 1) mX5_letRain UX P) UX cX5_letRain 3 RX5 2 [(0, aR 2 i0), (1, aI x1), (2, aI x2)] [] V) (h : wpX5_letRain_0 (Cl UX d) I2 i0 x1 V P) : Gq (Kp (d + 1) mX5_letRain UX P) UX cX5_letRain 3 RX5 0 [(0, aR 2 i0), (1, aI x1)] [] V := by
  unfold wpX5_letRain_0 at h
  refine go_iconst (v := 0) dX5_letRain_0 (by decide) ?_
  refine go_istore_n (al1 := [(2, aI 0), (0, aR 2 i0), (1, aI x1)]) dX5_letRain_1 rfl (by decide) rfl ?_
  refine go_sub (al1 := [(0, aR 2 i0), (1, aI x1), (2, aI 0)]) [1, 2, 0] rfl ?_
  exact hk2 x1 0  V h
theorem clX5_letRain {d : Nat} {P : Option AV → Mem → Prop} {I2 : Int32 → Int32 → Mem → Prop} (i0 : Nat) (h_i0 : i0 < 3) (x1 : Int32) (V : Mem) (hk2 : ∀ (x1 : Int32) (x2 : Int32), ∀ (V : Mem), I2 x1 x2 V → Gq (Kp (d + 1) mX5_letRain UX P) UX cX5_letRain 3 RX5 2 [(0, aR 2 i0), (1, aI x1), (2, aI x2)] [] V) (h : wpX5_letRain_0 (Cl UX d) I2 i0 x1 V P) : Cl UX (d + 1) mX5_letRain [aR 2 i0, aI x1] V P :=
  cl_of [(0, aR 2 i0), (1, aI x1)] (by decide) (fun _ => Nat.le_of_ble_eq_true rfl) (fun _ => rfl) (okX5_letRain_0 i0 h_i0 x1 V hk2 h)
theorem dX5_letSnow_0 : decode cX5_letSnow 0 = .ok (.iconst 0, 1) := by decide +kernel
theorem dX5_letSnow_1 : decode cX5_letSnow 1 = .ok (.istore_n 2, 1) := by decide +kernel
theorem dX5_letSnow_2 : decode cX5_letSnow 2 = .ok (.iload_n 2, 1) := by decide +kernel
theorem dX5_letSnow_3 : decode cX5_letSnow 3 = .ok (.aload_n 0, 1) := by decide +kernel
theorem dX5_letSnow_4 : decode cX5_letSnow 4 = .ok (.getfield 32, 3) := by decide +kernel
theorem dX5_letSnow_7 : decode cX5_letSnow 7 = .ok (.if_icmp .ge 38, 3) := by decide +kernel
theorem dX5_letSnow_10 : decode cX5_letSnow 10 = .ok (.aload_n 0, 1) := by decide +kernel
theorem dX5_letSnow_11 : decode cX5_letSnow 11 = .ok (.dup, 1) := by decide +kernel
theorem dX5_letSnow_12 : decode cX5_letSnow 12 = .ok (.getfield 44, 3) := by decide +kernel
theorem dX5_letSnow_15 : decode cX5_letSnow 15 = .ok (.aload_n 0, 1) := by decide +kernel
theorem dX5_letSnow_16 : decode cX5_letSnow 16 = .ok (.getfield 11, 3) := by decide +kernel
theorem dX5_letSnow_19 : decode cX5_letSnow 19 = .ok (.iload_n 2, 1) := by decide +kernel
theorem dX5_letSnow_20 : decode cX5_letSnow 20 = .ok (.aaload, 1) := by decide +kernel
theorem dX5_letSnow_21 : decode cX5_letSnow 21 = .ok (.iload_n 1, 1) := by decide +kernel
theorem dX5_letSnow_22 : decode cX5_letSnow 22 = .ok (.aload_n 0, 1) := by decide +kernel
theorem dX5_letSnow_23 : decode cX5_letSnow 23 = .ok (.getfield 11, 3) := by decide +kernel
theorem dX5_letSnow_26 : decode cX5_letSnow 26 = .ok (.iload_n 2, 1) := by decide +kernel
theorem dX5_letSnow_27 : decode cX5_letSnow 27 = .ok (.aaload, 1) := by decide +kernel
theorem dX5_letSnow_28 : decode cX5_letSnow 28 = .ok (.getfield 93, 3) := by decide +kernel
theorem dX5_letSnow_31 : decode cX5_letSnow 31 = .ok (.imul, 1) := by decide +kernel
theorem dX5_letSnow_32 : decode cX5_letSnow 32 = .ok (.invokevirtual 143, 3) := by decide +kernel
theorem dX5_letSnow_35 : decode cX5_letSnow 35 = .ok (.iadd, 1) := by decide +kernel
theorem dX5_letSnow_36 : decode cX5_letSnow 36 = .ok (.putfield 44, 3) := by decide +kernel
theorem dX5_letSnow_39 : decode cX5_letSnow 39 = .ok (.iinc 2 1, 3) := by decide +kernel
theorem dX5_letSnow_42 : decode cX5_letSnow 42 = .ok (.goto (-40), 3) := by decide +kernel
theorem dX5_letSnow_45 : decode cX5_letSnow 45 = .ok (.aload_n 0, 1) := by decide +kernel
theorem dX5_letSnow_46 : decode cX5_letSnow 46 = .ok (.dup, 1) := by decide +kernel
theorem dX5_letSnow_47 : decode cX5_letSnow 47 = .ok (.getfield 44, 3) := by decide +kernel
theorem dX5_letSnow_50 : decode cX5_letSnow 50 = .ok (.bipush 10, 2) := by decide +kernel
theorem dX5_letSnow_52 : decode cX5_letSnow 52 = .ok (.iload_n 1, 1) := by decide +kernel
theorem dX5_letSnow_53 : decode cX5_letSnow 53 = .ok (.imul, 1) := by decide +kernel
theorem dX5_letSnow_54 : decode cX5_letSnow 54 = .ok (.iadd, 1) := by decide +kernel
theorem dX5_letSnow_55 : decode cX5_letSnow 55 = .ok (.putfield 44, 3) := by decide +kernel
theorem dX5_letSnow_58 : decode cX5_letSnow 58 = .ok (.return_, 1) := by decide +kernel
def wpX5_letSnow_2 (C : CT) (I2 : Int32 → Int32 → Mem → Prop) (i0 : Nat) (x1 : Int32) (x2 : Int32) (V : Mem) (Q : Option AV → Mem → Prop) : Prop :=
  (((V 2 i0 6) ≤ x2 → (∀ V_1 : Mem, V_1 = mu V 2 i0 10 ((V 2 i0 10) + (10 * x1)) → Q none V_1)) ∧ (¬ (V 2 i0 6) ≤ x2 → (∃ j_2 : Nat, x2 = nI j_2 ∧ j_2 < 8 ∧ (cI C mX2_takeSnow [aR 3 (8 * i0 + j_2), aI (x1 * (V 3 (8 * i0 + j_2) 1))] V (fun x_4 V_3 => (∀ V_5 : Mem, V_5 = mu V_3 2 i0 10 ((V 2 i0 10) + x_4) → I2 x1 (x2 + 1) V_5))))))
set_option maxRecDepth 10000 in
theorem okX5_letSnow_2 {d : Nat} {P : Option AV → Mem → Prop} {I2 : Int32 → Int32 → Mem → Prop} (i0 : Nat) (h_i0 : i0 < 3) (x1 : Int32) (x2 : Int32)  (V : Mem) (hk2 : ∀ (x1 : Int32) (x2 : Int32), ∀ (V : Mem), I2 x1 x2 V → Gq (Kp (d + 1) mX5_letSnow UX P) UX cX5_letSnow 3 RX5 2 [(0, aR 2 i0), (1, aI x1), (2, aI x2)] [] V) (h : wpX5_letSnow_2 (Cl UX d) I2 i0 x1 x2 V P) : Gq (Kp (d + 1) mX5_letSnow UX P) UX cX5_letSnow 3 RX5 2 [(0, aR 2 i0), (1, aI x1), (2, aI x2)] [] V := by
  unfold wpX5_letSnow_2 at h
  refine go_iload_n (q := 2) dX5_letSnow_2 rfl rfl ?_
  refine go_aload_n (q := 0) dX5_letSnow_3 rfl rfl ?_
  refine go_geti fg_X5_32 dX5_letSnow_4 (mX (n := 3) (by decide) rfl (by omega)) ?_
  refine go_icmp_ge (tgt := 45) dX5_letSnow_7 (by decide) (fun c_6 => ?_) (fun c_6 => ?_)
  · have h := h.1 c_6
    refine go_aload_n (q := 0) dX5_letSnow_45 rfl rfl ?_
    refine go_dup dX5_letSnow_46 rfl ?_
    refine go_geti fg_X5_44 dX5_letSnow_47 (mX (n := 3) (by decide) rfl (by omega)) ?_
    refine go_bipush (v := 10) dX5_letSnow_50 (by decide) ?_
    refine go_iload_n (q := 1) dX5_letSnow_52 rfl rfl ?_
    refine go_imul dX5_letSnow_53 ?_
    refine go_iadd dX5_letSnow_54 ?_
    refine go_puti fp_X5_44 dX5_letSnow_55 (mX (n := 3) (by decide) rfl (by omega)) ?_
    refine nmV (fun V_1 e_V_1 => ?_)
    have h := h V_1 e_V_1
    exact go_vret rfl dX5_letSnow_58 h
  · have h := h.2 c_6
    refine go_aload_n (q := 0) dX5_letSnow_10 rfl rfl ?_
    refine go_dup dX5_letSnow_11 rfl ?_
    refine go_geti fg_X5_44 dX5_letSnow_12 (mX (n := 3) (by decide) rfl (by omega)) ?_
    refine go_aload_n (q := 0) dX5_letSnow_15 rfl rfl ?_
    refine go_getr fg_X5_11 dX5_letSnow_16 (mX (n := 3) (by decide) rfl (by omega)) ?_
    refine go_iload_n (q := 2) dX5_letSnow_19 rfl rfl ?_
    obtain ⟨j_2, e_j_2, l_j_2, h⟩ := h
    refine go_aald (r := 13) (n := 8) (j := j_2) rfl rfl (by decide) dX5_letSnow_20 (mX (n := 3) (by decide) rfl (by omega)) e_j_2 l_j_2 ?_
    refine go_iload_n (q := 1) dX5_letSnow_21 rfl rfl ?_
    refine go_aload_n (q := 0) dX5_letSnow_22 rfl rfl ?_
    refine go_getr fg_X5_11 dX5_letSnow_23 (mX (n := 3) (by decide) rfl (by omega)) ?_
    refine go_iload_n (q := 2) dX5_letSnow_26 rfl rfl ?_
    refine go_aald (r := 13) (n := 8) (j := j_2) rfl rfl (by decide) dX5_letSnow_27 (mX (n := 3) (by decide) rfl (by omega)) e_j_2 (by omega) ?_
    refine go_geti fg_X5_93 dX5_letSnow_28 (mX (n := 29) (by decide) rfl (by omega)) ?_
    refine go_imul dX5_letSnow_31 ?_
    refine go_cVI (As := [aI (x1 * (V 3 (8 * i0 + j_2) 1))]) (st := [aI (V 2 i0 10), aR 2 i0]) (r := 3) (i := (8 * i0 + j_2)) mv_X2_takeSnow dX5_letSnow_32 ml_X5_143 (hr_Kp (Nat.le_refl d)) rfl rfl (mX (n := 29) (by decide) rfl (by omega)) rfl rfl (Nat.le_of_ble_eq_true rfl) h (fun x_4 V_3 h => ?_)
    refine go_iadd dX5_letSnow_35 ?_
    refine go_puti fp_X5_44 dX5_letSnow_36 (mX (n := 3) (by decide) rfl (by omega)) ?_
    refine nmV (fun V_5 e_V_5 => ?_)
    have h := h V_5 e_V_5
    refine go_iinc (q := 2) (y := 1) (al1 := [(2, aI (x2 + 1)), (0, aR 2 i0), (1, aI x1)]) dX5_letSnow_39 rfl (by decide) (by decide) rfl ?_
    refine go_goto (tgt := 2) dX5_letSnow_42 (by decide) ?_
    refine go_sub (al1 := [(0, aR 2 i0), (1, aI x1), (2, aI (x2 + 1))]) [1, 2, 0] rfl ?_
    exact hk2 x1 (x2 + 1)  V_5 h
def wpX5_letSnow_0 (C : CT) (I2 : Int32 → Int32 → Mem → Prop) (i0 : Nat) (x1 : Int32) (V : Mem) (Q : Option AV → Mem → Prop) : Prop :=
  I2 x1 0 V
set_option maxRecDepth 10000 in
theorem okX5_letSnow_0 {d : Nat} {P : Option AV → Mem → Prop} {I2 : Int32 → Int32 → Mem → Prop} (i0 : Nat) (h_i0 : i0 < 3) (x1 : Int32)  (V : Mem) (hk2 : ∀ (x1 : Int32) (x2 : Int32), ∀ (V : Mem), I2 x1 x2 V → Gq (Kp (d + 1) mX5_letSnow UX P) UX cX5_letSnow 3 RX5 2 [(0, aR 2 i0), (1, aI x1), (2, aI x2)] [] V) (h : wpX5_letSnow_0 (Cl UX d) I2 i0 x1 V P) : Gq (Kp (d + 1) mX5_letSnow UX P) UX cX5_letSnow 3 RX5 0 [(0, aR 2 i0), (1, aI x1)] [] V := by
  unfold wpX5_letSnow_0 at h
  refine go_iconst (v := 0) dX5_letSnow_0 (by decide) ?_
  refine go_istore_n (al1 := [(2, aI 0), (0, aR 2 i0), (1, aI x1)]) dX5_letSnow_1 rfl (by decide) rfl ?_
  refine go_sub (al1 := [(0, aR 2 i0), (1, aI x1), (2, aI 0)]) [1, 2, 0] rfl ?_
  exact hk2 x1 0  V h
theorem clX5_letSnow {d : Nat} {P : Option AV → Mem → Prop} {I2 : Int32 → Int32 → Mem → Prop} (i0 : Nat) (h_i0 : i0 < 3) (x1 : Int32) (V : Mem) (hk2 : ∀ (x1 : Int32) (x2 : Int32), ∀ (V : Mem), I2 x1 x2 V → Gq (Kp (d + 1) mX5_letSnow UX P) UX cX5_letSnow 3 RX5 2 [(0, aR 2 i0), (1, aI x1), (2, aI x2)] [] V) (h : wpX5_letSnow_0 (Cl UX d) I2 i0 x1 V P) : Cl UX (d + 1) mX5_letSnow [aR 2 i0, aI x1] V P :=
  cl_of [(0, aR 2 i0), (1, aI x1)] (by decide) (fun _ => Nat.le_of_ble_eq_true rfl) (fun _ => rfl) (okX5_letSnow_0 i0 h_i0 x1 V hk2 h)
theorem dX5_letHail_0 : decode cX5_letHail 0 = .ok (.iconst 0, 1) := by decide +kernel
theorem dX5_letHail_1 : decode cX5_letHail 1 = .ok (.istore_n 2, 1) := by decide +kernel
theorem dX5_letHail_2 : decode cX5_letHail 2 = .ok (.iload_n 2, 1) := by decide +kernel
theorem dX5_letHail_3 : decode cX5_letHail 3 = .ok (.aload_n 0, 1) := by decide +kernel
theorem dX5_letHail_4 : decode cX5_letHail 4 = .ok (.getfield 32, 3) := by decide +kernel
theorem dX5_letHail_7 : decode cX5_letHail 7 = .ok (.if_icmp .ge 29, 3) := by decide +kernel
theorem dX5_letHail_10 : decode cX5_letHail 10 = .ok (.aload_n 0, 1) := by decide +kernel
theorem dX5_letHail_11 : decode cX5_letHail 11 = .ok (.dup, 1) := by decide +kernel
theorem dX5_letHail_12 : decode cX5_letHail 12 = .ok (.getfield 50, 3) := by decide +kernel
theorem dX5_letHail_15 : decode cX5_letHail 15 = .ok (.iload_n 1, 1) := by decide +kernel
theorem dX5_letHail_16 : decode cX5_letHail 16 = .ok (.aload_n 0, 1) := by decide +kernel
theorem dX5_letHail_17 : decode cX5_letHail 17 = .ok (.getfield 11, 3) := by decide +kernel
theorem dX5_letHail_20 : decode cX5_letHail 20 = .ok (.iload_n 2, 1) := by decide +kernel
theorem dX5_letHail_21 : decode cX5_letHail 21 = .ok (.aaload, 1) := by decide +kernel
theorem dX5_letHail_22 : decode cX5_letHail 22 = .ok (.getfield 93, 3) := by decide +kernel
theorem dX5_letHail_25 : decode cX5_letHail 25 = .ok (.imul, 1) := by decide +kernel
theorem dX5_letHail_26 : decode cX5_letHail 26 = .ok (.iadd, 1) := by decide +kernel
theorem dX5_letHail_27 : decode cX5_letHail 27 = .ok (.putfield 50, 3) := by decide +kernel
theorem dX5_letHail_30 : decode cX5_letHail 30 = .ok (.iinc 2 1, 3) := by decide +kernel
theorem dX5_letHail_33 : decode cX5_letHail 33 = .ok (.goto (-31), 3) := by decide +kernel
theorem dX5_letHail_36 : decode cX5_letHail 36 = .ok (.aload_n 0, 1) := by decide +kernel
theorem dX5_letHail_37 : decode cX5_letHail 37 = .ok (.dup, 1) := by decide +kernel
theorem dX5_letHail_38 : decode cX5_letHail 38 = .ok (.getfield 50, 3) := by decide +kernel
theorem dX5_letHail_41 : decode cX5_letHail 41 = .ok (.bipush 10, 2) := by decide +kernel
theorem dX5_letHail_43 : decode cX5_letHail 43 = .ok (.iload_n 1, 1) := by decide +kernel
theorem dX5_letHail_44 : decode cX5_letHail 44 = .ok (.imul, 1) := by decide +kernel
theorem dX5_letHail_45 : decode cX5_letHail 45 = .ok (.iadd, 1) := by decide +kernel
theorem dX5_letHail_46 : decode cX5_letHail 46 = .ok (.putfield 50, 3) := by decide +kernel
theorem dX5_letHail_49 : decode cX5_letHail 49 = .ok (.return_, 1) := by decide +kernel
def wpX5_letHail_2 (C : CT) (I2 : Int32 → Int32 → Mem → Prop) (i0 : Nat) (x1 : Int32) (x2 : Int32) (V : Mem) (Q : Option AV → Mem → Prop) : Prop :=
  (((V 2 i0 6) ≤ x2 → (∀ V_1 : Mem, V_1 = mu V 2 i0 12 ((V 2 i0 12) + (10 * x1)) → Q none V_1)) ∧ (¬ (V 2 i0 6) ≤ x2 → (∃ j_2 : Nat, x2 = nI j_2 ∧ j_2 < 8 ∧ (∀ V_3 : Mem, V_3 = mu V 2 i0 12 ((V 2 i0 12) + (x1 * (V 3 (8 * i0 + j_2) 1))) → I2 x1 (x2 + 1) V_3))))
set_option maxRecDepth 10000 in
theorem okX5_letHail_2 {d : Nat} {P : Option AV → Mem → Prop} {I2 : Int32 → Int32 → Mem → Prop} (i0 : Nat) (h_i0 : i0 < 3) (x1 : Int32) (x2 : Int32)  (V : Mem) (hk2 : ∀ (x1 : Int32) (x2 : Int32), ∀ (V : Mem), I2 x1 x2 V → Gq (Kp (d + 1) mX5_letHail UX P) UX cX5_letHail 3 RX5 2 [(0, aR 2 i0), (1, aI x1), (2, aI x2)] [] V) (h : wpX5_letHail_2 (Cl UX d) I2 i0 x1 x2 V P) : Gq (Kp (d + 1) mX5_letHail UX P) UX cX5_letHail 3 RX5 2 [(0, aR 2 i0), (1, aI x1), (2, aI x2)] [] V := by
  unfold wpX5_letHail_2 at h
  refine go_iload_n (q := 2) dX5_letHail_2 rfl rfl ?_
  refine go_aload_n (q := 0) dX5_letHail_3 rfl rfl ?_
  refine go_geti fg_X5_32 dX5_letHail_4 (mX (n := 3) (by decide) rfl (by omega)) ?_
  refine go_icmp_ge (tgt := 36) dX5_letHail_7 (by decide) (fun c_4 => ?_) (fun c_4 => ?_)
  · have h := h.1 c_4
    refine go_aload_n (q := 0) dX5_letHail_36 rfl rfl ?_
    refine go_dup dX5_letHail_37 rfl ?_
    refine go_geti fg_X5_50 dX5_letHail_38 (mX (n := 3) (by decide) rfl (by omega)) ?_
    refine go_bipush (v := 10) dX5_letHail_41 (by decide) ?_
    refine go_iload_n (q := 1) dX5_letHail_43 rfl rfl ?_
    refine go_imul dX5_letHail_44 ?_
    refine go_iadd dX5_letHail_45 ?_
    refine go_puti fp_X5_50 dX5_letHail_46 (mX (n := 3) (by decide) rfl (by omega)) ?_
    refine nmV (fun V_1 e_V_1 => ?_)
    have h := h V_1 e_V_1
    exact go_vret rfl dX5_letHail_49 h
  · have h := h.2 c_4
    refine go_aload_n (q := 0) dX5_letHail_10 rfl rfl ?_
    refine go_dup dX5_letHail_11 rfl ?_
    refine go_geti fg_X5_50 dX5_letHail_12 (mX (n := 3) (by decide) rfl (by omega)) ?_
    refine go_iload_n (q := 1) dX5_letHail_15 rfl rfl ?_
    refine go_aload_n (q := 0) dX5_letHail_16 rfl rfl ?_
    refine go_getr fg_X5_11 dX5_letHail_17 (mX (n := 3) (by decide) rfl (by omega)) ?_
    refine go_iload_n (q := 2) dX5_letHail_20 rfl rfl ?_
    obtain ⟨j_2, e_j_2, l_j_2, h⟩ := h
    refine go_aald (r := 13) (n := 8) (j := j_2) rfl rfl (by decide) dX5_letHail_21 (mX (n := 3) (by decide) rfl (by omega)) e_j_2 l_j_2 ?_
    refine go_geti fg_X5_93 dX5_letHail_22 (mX (n := 29) (by decide) rfl (by omega)) ?_
    refine go_imul dX5_letHail_25 ?_
    refine go_iadd dX5_letHail_26 ?_
    refine go_puti fp_X5_50 dX5_letHail_27 (mX (n := 3) (by decide) rfl (by omega)) ?_
    refine nmV (fun V_3 e_V_3 => ?_)
    have h := h V_3 e_V_3
    refine go_iinc (q := 2) (y := 1) (al1 := [(2, aI (x2 + 1)), (0, aR 2 i0), (1, aI x1)]) dX5_letHail_30 rfl (by decide) (by decide) rfl ?_
    refine go_goto (tgt := 2) dX5_letHail_33 (by decide) ?_
    refine go_sub (al1 := [(0, aR 2 i0), (1, aI x1), (2, aI (x2 + 1))]) [1, 2, 0] rfl ?_
    exact hk2 x1 (x2 + 1)  V_3 h
def wpX5_letHail_0 (C : CT) (I2 : Int32 → Int32 → Mem → Prop) (i0 : Nat) (x1 : Int32) (V : Mem) (Q : Option AV → Mem → Prop) : Prop :=
  I2 x1 0 V
set_option maxRecDepth 10000 in
theorem okX5_letHail_0 {d : Nat} {P : Option AV → Mem → Prop} {I2 : Int32 → Int32 → Mem → Prop} (i0 : Nat) (h_i0 : i0 < 3) (x1 : Int32)  (V : Mem) (hk2 : ∀ (x1 : Int32) (x2 : Int32), ∀ (V : Mem), I2 x1 x2 V → Gq (Kp (d + 1) mX5_letHail UX P) UX cX5_letHail 3 RX5 2 [(0, aR 2 i0), (1, aI x1), (2, aI x2)] [] V) (h : wpX5_letHail_0 (Cl UX d) I2 i0 x1 V P) : Gq (Kp (d + 1) mX5_letHail UX P) UX cX5_letHail 3 RX5 0 [(0, aR 2 i0), (1, aI x1)] [] V := by
  unfold wpX5_letHail_0 at h
  refine go_iconst (v := 0) dX5_letHail_0 (by decide) ?_
  refine go_istore_n (al1 := [(2, aI 0), (0, aR 2 i0), (1, aI x1)]) dX5_letHail_1 rfl (by decide) rfl ?_
  refine go_sub (al1 := [(0, aR 2 i0), (1, aI x1), (2, aI 0)]) [1, 2, 0] rfl ?_
  exact hk2 x1 0  V h
theorem clX5_letHail {d : Nat} {P : Option AV → Mem → Prop} {I2 : Int32 → Int32 → Mem → Prop} (i0 : Nat) (h_i0 : i0 < 3) (x1 : Int32) (V : Mem) (hk2 : ∀ (x1 : Int32) (x2 : Int32), ∀ (V : Mem), I2 x1 x2 V → Gq (Kp (d + 1) mX5_letHail UX P) UX cX5_letHail 3 RX5 2 [(0, aR 2 i0), (1, aI x1), (2, aI x2)] [] V) (h : wpX5_letHail_0 (Cl UX d) I2 i0 x1 V P) : Cl UX (d + 1) mX5_letHail [aR 2 i0, aI x1] V P :=
  cl_of [(0, aR 2 i0), (1, aI x1)] (by decide) (fun _ => Nat.le_of_ble_eq_true rfl) (fun _ => rfl) (okX5_letHail_0 i0 h_i0 x1 V hk2 h)
theorem dX5_letSlide_0 : decode cX5_letSlide 0 = .ok (.iconst 0, 1) := by decide +kernel
theorem dX5_letSlide_1 : decode cX5_letSlide 1 = .ok (.istore_n 1, 1) := by decide +kernel
theorem dX5_letSlide_2 : decode cX5_letSlide 2 = .ok (.iconst 0, 1) := by decide +kernel
theorem dX5_letSlide_3 : decode cX5_letSlide 3 = .ok (.istore_n 2, 1) := by decide +kernel
theorem dX5_letSlide_4 : decode cX5_letSlide 4 = .ok (.iload_n 2, 1) := by decide +kernel
theorem dX5_letSlide_5 : decode cX5_letSlide 5 = .ok (.aload_n 0, 1) := by decide +kernel
theorem dX5_letSlide_6 : decode cX5_letSlide 6 = .ok (.getfield 32, 3) := by decide +kernel
theorem dX5_letSlide_9 : decode cX5_letSlide 9 = .ok (.if_icmp .ge 98, 3) := by decide +kernel
theorem dX5_letSlide_12 : decode cX5_letSlide 12 = .ok (.aload_n 0, 1) := by decide +kernel
theorem dX5_letSlide_13 : decode cX5_letSlide 13 = .ok (.getfield 11, 3) := by decide +kernel
theorem dX5_letSlide_16 : decode cX5_letSlide 16 = .ok (.iload_n 2, 1) := by decide +kernel
theorem dX5_letSlide_17 : decode cX5_letSlide 17 = .ok (.aaload, 1) := by decide +kernel
theorem dX5_letSlide_18 : decode cX5_letSlide 18 = .ok (.astore_n 3, 1) := by decide +kernel
theorem dX5_letSlide_19 : decode cX5_letSlide 19 = .ok (.aload_n 3, 1) := by decide +kernel
theorem dX5_letSlide_20 : decode cX5_letSlide 20 = .ok (.getfield 96, 3) := by decide +kernel
theorem dX5_letSlide_23 : decode cX5_letSlide 23 = .ok (.aload_n 3, 1) := by decide +kernel
theorem dX5_letSlide_24 : decode cX5_letSlide 24 = .ok (.invokevirtual 146, 3) := by decide +kernel
theorem dX5_letSlide_27 : decode cX5_letSlide 27 = .ok (.if_icmp .le 74, 3) := by decide +kernel
theorem dX5_letSlide_30 : decode cX5_letSlide 30 = .ok (.aload_n 3, 1) := by decide +kernel
theorem dX5_letSlide_31 : decode cX5_letSlide 31 = .ok (.getfield 96, 3) := by decide +kernel
theorem dX5_letSlide_34 : decode cX5_letSlide 34 = .ok (.istore 4, 2) := by decide +kernel
theorem dX5_letSlide_36 : decode cX5_letSlide 36 = .ok (.aload_n 3, 1) := by decide +kernel
theorem dX5_letSlide_37 : decode cX5_letSlide 37 = .ok (.iconst 0, 1) := by decide +kernel
theorem dX5_letSlide_38 : decode cX5_letSlide 38 = .ok (.putfield 96, 3) := by decide +kernel
theorem dX5_letSlide_41 : decode cX5_letSlide 41 = .ok (.aload_n 3, 1) := by decide +kernel
theorem dX5_letSlide_42 : decode cX5_letSlide 42 = .ok (.iconst 3, 1) := by decide +kernel
theorem dX5_letSlide_43 : decode cX5_letSlide 43 = .ok (.invokevirtual 149, 3) := by decide +kernel
theorem dX5_letSlide_46 : decode cX5_letSlide 46 = .ok (.ifCond .eq 17, 3) := by decide +kernel
theorem dX5_letSlide_49 : decode cX5_letSlide 49 = .ok (.iload_n 2, 1) := by decide +kernel
theorem dX5_letSlide_50 : decode cX5_letSlide 50 = .ok (.iconst 1, 1) := by decide +kernel
theorem dX5_letSlide_51 : decode cX5_letSlide 51 = .ok (.iadd, 1) := by decide +kernel
theorem dX5_letSlide_52 : decode cX5_letSlide 52 = .ok (.aload_n 0, 1) := by decide +kernel
theorem dX5_letSlide_53 : decode cX5_letSlide 53 = .ok (.getfield 32, 3) := by decide +kernel
theorem dX5_letSlide_56 : decode cX5_letSlide 56 = .ok (.if_icmp .ge 7, 3) := by decide +kernel
theorem dX5_letSlide_59 : decode cX5_letSlide 59 = .ok (.iconst 1, 1) := by decide +kernel
theorem dX5_letSlide_60 : decode cX5_letSlide 60 = .ok (.goto 4, 3) := by decide +kernel
theorem dX5_letSlide_63 : decode cX5_letSlide 63 = .ok (.iconst 0, 1) := by decide +kernel
theorem dX5_letSlide_64 : decode cX5_letSlide 64 = .ok (.istore 5, 2) := by decide +kernel
theorem dX5_letSlide_66 : decode cX5_letSlide 66 = .ok (.aload_n 0, 1) := by decide +kernel
theorem dX5_letSlide_67 : decode cX5_letSlide 67 = .ok (.dup, 1) := by decide +kernel
theorem dX5_letSlide_68 : decode cX5_letSlide 68 = .ok (.getfield 44, 3) := by decide +kernel
theorem dX5_letSlide_71 : decode cX5_letSlide 71 = .ok (.iload 5, 2) := by decide +kernel
theorem dX5_letSlide_73 : decode cX5_letSlide 73 = .ok (.ifCond .eq 19, 3) := by decide +kernel
theorem dX5_letSlide_76 : decode cX5_letSlide 76 = .ok (.aload_n 0, 1) := by decide +kernel
theorem dX5_letSlide_77 : decode cX5_letSlide 77 = .ok (.getfield 11, 3) := by decide +kernel
theorem dX5_letSlide_80 : decode cX5_letSlide 80 = .ok (.iload_n 2, 1) := by decide +kernel
theorem dX5_letSlide_81 : decode cX5_letSlide 81 = .ok (.iconst 1, 1) := by decide +kernel
theorem dX5_letSlide_82 : decode cX5_letSlide 82 = .ok (.iadd, 1) := by decide +kernel
theorem dX5_letSlide_83 : decode cX5_letSlide 83 = .ok (.aaload, 1) := by decide +kernel
theorem dX5_letSlide_84 : decode cX5_letSlide 84 = .ok (.iload 4, 2) := by decide +kernel
theorem dX5_letSlide_86 : decode cX5_letSlide 86 = .ok (.invokevirtual 143, 3) := by decide +kernel
theorem dX5_letSlide_89 : decode cX5_letSlide 89 = .ok (.goto 5, 3) := by decide +kernel
theorem dX5_letSlide_92 : decode cX5_letSlide 92 = .ok (.iload 4, 2) := by decide +kernel
theorem dX5_letSlide_94 : decode cX5_letSlide 94 = .ok (.iadd, 1) := by decide +kernel
theorem dX5_letSlide_95 : decode cX5_letSlide 95 = .ok (.putfield 44, 3) := by decide +kernel
theorem dX5_letSlide_98 : decode cX5_letSlide 98 = .ok (.iinc 1 1, 3) := by decide +kernel
theorem dX5_letSlide_101 : decode cX5_letSlide 101 = .ok (.iinc 2 1, 3) := by decide +kernel
theorem dX5_letSlide_104 : decode cX5_letSlide 104 = .ok (.goto (-100), 3) := by decide +kernel
theorem dX5_letSlide_107 : decode cX5_letSlide 107 = .ok (.iload_n 1, 1) := by decide +kernel
theorem dX5_letSlide_108 : decode cX5_letSlide 108 = .ok (.ireturn, 1) := by decide +kernel
def wpX5_letSlide_64 (C : CT) (I4 : Int32 → Int32 → Mem → Prop) (i0 : Nat) (x1 : Int32) (x2 : Int32) (m3 : Nat) (x4 : Int32) (s0 : Int32) (V : Mem) (Q : Option AV → Mem → Prop) : Prop :=
  ((s0 = 0 → (∀ V_1 : Mem, V_1 = mu V 2 i0 10 ((V 2 i0 10) + x4) → I4 (x1 + 1) (x2 + 1) V_1)) ∧ (¬ s0 = 0 → (∃ j_2 : Nat, (x2 + 1) = nI j_2 ∧ j_2 < 8 ∧ (cI C mX2_takeSnow [aR 3 (8 * i0 + j_2), aI x4] V (fun x_4 V_3 => (∀ V_5 : Mem, V_5 = mu V_3 2 i0 10 ((V 2 i0 10) + x_4) → I4 (x1 + 1) (x2 + 1) V_5))))))
set_option maxRecDepth 10000 in
theorem okX5_letSlide_64 {d : Nat} {P : Option AV → Mem → Prop} {I4 : Int32 → Int32 → Mem → Prop} (i0 : Nat) (h_i0 : i0 < 3) (x1 : Int32) (x2 : Int32) (m3 : Nat) (x4 : Int32) (s0 : Int32) (h_m3 : m3 < 29) (V : Mem) (hk4 : ∀ (x1 : Int32) (x2 : Int32), ∀ (V : Mem), I4 x1 x2 V → Gq (Kp (d + 1) mX5_letSlide UX P) UX cX5_letSlide 6 RX5 4 [(0, aR 2 i0), (1, aI x1), (2, aI x2)] [] V) (h : wpX5_letSlide_64 (Cl UX d) I4 i0 x1 x2 m3 x4 s0 V P) : Gq (Kp (d + 1) mX5_letSlide UX P) UX cX5_letSlide 6 RX5 64 [(0, aR 2 i0), (1, aI x1), (2, aI x2), (3, aR 3 m3), (4, aI x4)] [aI s0] V := by
  unfold wpX5_letSlide_64 at h
  refine go_istore (al1 := [(5, aI s0), (0, aR 2 i0), (1, aI x1), (2, aI x2), (3, aR 3 m3), (4, aI x4)]) dX5_letSlide_64 (by decide) rfl ?_
  refine go_aload_n (q := 1) dX5_letSlide_66 rfl rfl ?_
  refine go_dup dX5_letSlide_67 rfl ?_
  refine go_geti fg_X5_44 dX5_letSlide_68 (mX (n := 3) (by decide) rfl (by omega)) ?_
  refine go_iload (q := 0) dX5_letSlide_71 rfl ?_
  refine go_if_eq (tgt := 92) dX5_letSlide_73 (by decide) (fun c_6 => ?_) (fun c_6 => ?_)
  · have h := h.1 c_6
    refine go_iload (q := 5) dX5_letSlide_92 rfl ?_
    refine go_iadd dX5_letSlide_94 ?_
    refine go_puti fp_X5_44 dX5_letSlide_95 (mX (n := 3) (by decide) rfl (by omega)) ?_
    refine nmV (fun V_1 e_V_1 => ?_)
    have h := h V_1 e_V_1
    refine go_iinc (q := 2) (y := 1) (al1 := [(1, aI (x1 + 1)), (5, aI s0), (0, aR 2 i0), (2, aI x2), (3, aR 3 m3), (4, aI x4)]) dX5_letSlide_98 rfl (by decide) (by decide) rfl ?_
    refine go_iinc (q := 3) (y := 1) (al1 := [(2, aI (x2 + 1)), (1, aI (x1 + 1)), (5, aI s0), (0, aR 2 i0), (3, aR 3 m3), (4, aI x4)]) dX5_letSlide_101 rfl (by decide) (by decide) rfl ?_
    refine go_goto (tgt := 4) dX5_letSlide_104 (by decide) ?_
    refine go_sub (al1 := [(0, aR 2 i0), (1, aI (x1 + 1)), (2, aI (x2 + 1))]) [3, 1, 0] rfl ?_
    exact hk4 (x1 + 1) (x2 + 1)  V_1 h
  · have h := h.2 c_6
    refine go_aload_n (q := 1) dX5_letSlide_76 rfl rfl ?_
    refine go_getr fg_X5_11 dX5_letSlide_77 (mX (n := 3) (by decide) rfl (by omega)) ?_
    refine go_iload_n (q := 3) dX5_letSlide_80 rfl rfl ?_
    refine go_iconst (v := 1) dX5_letSlide_81 (by decide) ?_
    refine go_iadd dX5_letSlide_82 ?_
    obtain ⟨j_2, e_j_2, l_j_2, h⟩ := h
    refine go_aald (r := 13) (n := 8) (j := j_2) rfl rfl (by decide) dX5_letSlide_83 (mX (n := 3) (by decide) rfl (by omega)) e_j_2 l_j_2 ?_
    refine go_iload (q := 5) dX5_letSlide_84 rfl ?_
    refine go_cVI (As := [aI x4]) (st := [aI (V 2 i0 10), aR 2 i0]) (r := 3) (i := (8 * i0 + j_2)) mv_X2_takeSnow dX5_letSlide_86 ml_X5_143 (hr_Kp (Nat.le_refl d)) rfl rfl (mX (n := 29) (by decide) rfl (by omega)) rfl rfl (Nat.le_of_ble_eq_true rfl) h (fun x_4 V_3 h => ?_)
    refine go_goto (tgt := 94) dX5_letSlide_89 (by decide) ?_
    refine go_iadd dX5_letSlide_94 ?_
    refine go_puti fp_X5_44 dX5_letSlide_95 (mX (n := 3) (by decide) rfl (by omega)) ?_
    refine nmV (fun V_5 e_V_5 => ?_)
    have h := h V_5 e_V_5
    refine go_iinc (q := 2) (y := 1) (al1 := [(1, aI (x1 + 1)), (5, aI s0), (0, aR 2 i0), (2, aI x2), (3, aR 3 m3), (4, aI x4)]) dX5_letSlide_98 rfl (by decide) (by decide) rfl ?_
    refine go_iinc (q := 3) (y := 1) (al1 := [(2, aI (x2 + 1)), (1, aI (x1 + 1)), (5, aI s0), (0, aR 2 i0), (3, aR 3 m3), (4, aI x4)]) dX5_letSlide_101 rfl (by decide) (by decide) rfl ?_
    refine go_goto (tgt := 4) dX5_letSlide_104 (by decide) ?_
    refine go_sub (al1 := [(0, aR 2 i0), (1, aI (x1 + 1)), (2, aI (x2 + 1))]) [3, 1, 0] rfl ?_
    exact hk4 (x1 + 1) (x2 + 1)  V_5 h
def wpX5_letSlide_63 (C : CT) (I4 : Int32 → Int32 → Mem → Prop) (i0 : Nat) (x1 : Int32) (x2 : Int32) (m3 : Nat) (x4 : Int32) (V : Mem) (Q : Option AV → Mem → Prop) : Prop :=
  wpX5_letSlide_64 C I4 i0 x1 x2 m3 x4 0 V Q
set_option maxRecDepth 10000 in
theorem okX5_letSlide_63 {d : Nat} {P : Option AV → Mem → Prop} {I4 : Int32 → Int32 → Mem → Prop} (i0 : Nat) (h_i0 : i0 < 3) (x1 : Int32) (x2 : Int32) (m3 : Nat) (x4 : Int32) (h_m3 : m3 < 29) (V : Mem) (hk4 : ∀ (x1 : Int32) (x2 : Int32), ∀ (V : Mem), I4 x1 x2 V → Gq (Kp (d + 1) mX5_letSlide UX P) UX cX5_letSlide 6 RX5 4 [(0, aR 2 i0), (1, aI x1), (2, aI x2)] [] V) (h : wpX5_letSlide_63 (Cl UX d) I4 i0 x1 x2 m3 x4 V P) : Gq (Kp (d + 1) mX5_letSlide UX P) UX cX5_letSlide 6 RX5 63 [(0, aR 2 i0), (1, aI x1), (2, aI x2), (3, aR 3 m3), (4, aI x4)] [] V := by
  unfold wpX5_letSlide_63 at h
  refine go_iconst (v := 0) dX5_letSlide_63 (by decide) ?_
  exact okX5_letSlide_64 i0 (by omega) x1 x2 m3 x4 0 (by omega) V hk4 h
def wpX5_letSlide_4 (C : CT) (I4 : Int32 → Int32 → Mem → Prop) (i0 : Nat) (x1 : Int32) (x2 : Int32) (V : Mem) (Q : Option AV → Mem → Prop) : Prop :=
  (((V 2 i0 6) ≤ x2 → Q (some (aI x1)) V) ∧ (¬ (V 2 i0 6) ≤ x2 → (∃ j_1 : Nat, x2 = nI j_1 ∧ j_1 < 8 ∧ (cI C mX2_bears [aR 3 (8 * i0 + j_1)] V (fun x_3 V_2 => (((V 3 (8 * i0 + j_1) 5) ≤ x_3 → I4 x1 (x2 + 1) V_2) ∧ (¬ (V 3 (8 * i0 + j_1) 5) ≤ x_3 → (∀ z_4 : Int32, z_4 = (V_2 3 (8 * i0 + j_1) 5) → (∀ V_5 : Mem, V_5 = mu V_2 3 (8 * i0 + j_1) 5 0 → (cI C mX2_isOf [aR 3 (8 * i0 + j_1), aI 3] V_5 (fun x_7 V_6 => ((x_7 = 0 → wpX5_letSlide_63 C I4 i0 x1 x2 (8 * i0 + j_1) z_4 V_6 Q) ∧ (¬ x_7 = 0 → (((V_6 2 i0 6) ≤ (x2 + 1) → wpX5_letSlide_63 C I4 i0 x1 x2 (8 * i0 + j_1) z_4 V_6 Q) ∧ (¬ (V_6 2 i0 6) ≤ (x2 + 1) → wpX5_letSlide_64 C I4 i0 x1 x2 (8 * i0 + j_1) z_4 1 V_6 Q)))))))))))))))
set_option maxRecDepth 10000 in
theorem okX5_letSlide_4 {d : Nat} {P : Option AV → Mem → Prop} {I4 : Int32 → Int32 → Mem → Prop} (i0 : Nat) (h_i0 : i0 < 3) (x1 : Int32) (x2 : Int32)  (V : Mem) (hk4 : ∀ (x1 : Int32) (x2 : Int32), ∀ (V : Mem), I4 x1 x2 V → Gq (Kp (d + 1) mX5_letSlide UX P) UX cX5_letSlide 6 RX5 4 [(0, aR 2 i0), (1, aI x1), (2, aI x2)] [] V) (h : wpX5_letSlide_4 (Cl UX d) I4 i0 x1 x2 V P) : Gq (Kp (d + 1) mX5_letSlide UX P) UX cX5_letSlide 6 RX5 4 [(0, aR 2 i0), (1, aI x1), (2, aI x2)] [] V := by
  unfold wpX5_letSlide_4 at h
  refine go_iload_n (q := 2) dX5_letSlide_4 rfl rfl ?_
  refine go_aload_n (q := 0) dX5_letSlide_5 rfl rfl ?_
  refine go_geti fg_X5_32 dX5_letSlide_6 (mX (n := 3) (by decide) rfl (by omega)) ?_
  refine go_icmp_ge (tgt := 107) dX5_letSlide_9 (by decide) (fun c_11 => ?_) (fun c_11 => ?_)
  · have h := h.1 c_11
    refine go_iload_n (q := 1) dX5_letSlide_107 rfl rfl ?_
    exact go_iret rfl dX5_letSlide_108 h
  · have h := h.2 c_11
    refine go_aload_n (q := 0) dX5_letSlide_12 rfl rfl ?_
    refine go_getr fg_X5_11 dX5_letSlide_13 (mX (n := 3) (by decide) rfl (by omega)) ?_
    refine go_iload_n (q := 2) dX5_letSlide_16 rfl rfl ?_
    obtain ⟨j_1, e_j_1, l_j_1, h⟩ := h
    refine go_aald (r := 13) (n := 8) (j := j_1) rfl rfl (by decide) dX5_letSlide_17 (mX (n := 3) (by decide) rfl (by omega)) e_j_1 l_j_1 ?_
    refine go_astore_n (al1 := [(3, aR 3 (8 * i0 + j_1)), (0, aR 2 i0), (1, aI x1), (2, aI x2)]) dX5_letSlide_18 rfl (by decide) rfl ?_
    refine go_aload_n (q := 0) dX5_letSlide_19 rfl rfl ?_
    refine go_geti fg_X5_96 dX5_letSlide_20 (mX (n := 29) (by decide) rfl (by omega)) ?_
    refine go_aload_n (q := 0) dX5_letSlide_23 rfl rfl ?_
    refine go_cVI (As := []) (st := [aI (V 3 (8 * i0 + j_1) 5)]) (r := 3) (i := (8 * i0 + j_1)) mv_X2_bears dX5_letSlide_24 ml_X5_146 (hr_Kp (Nat.le_refl d)) rfl rfl (mX (n := 29) (by decide) rfl (by omega)) rfl rfl (Nat.le_of_ble_eq_true rfl) h (fun x_3 V_2 h => ?_)
    refine go_icmp_le (tgt := 101) dX5_letSlide_27 (by decide) (fun c_10 => ?_) (fun c_10 => ?_)
    · have h := h.1 c_10
      refine go_iinc (q := 3) (y := 1) (al1 := [(2, aI (x2 + 1)), (3, aR 3 (8 * i0 + j_1)), (0, aR 2 i0), (1, aI x1)]) dX5_letSlide_101 rfl (by decide) (by decide) rfl ?_
      refine go_goto (tgt := 4) dX5_letSlide_104 (by decide) ?_
      refine go_sub (al1 := [(0, aR 2 i0), (1, aI x1), (2, aI (x2 + 1))]) [2, 3, 0] rfl ?_
      exact hk4 x1 (x2 + 1)  V_2 h
    · have h := h.2 c_10
      refine go_aload_n (q := 0) dX5_letSlide_30 rfl rfl ?_
      refine go_geti fg_X5_96 dX5_letSlide_31 (mX (n := 29) (by decide) rfl (by omega)) ?_
      refine nmI (fun z_4 e_z_4 => ?_)
      have h := h z_4 e_z_4
      refine go_istore (al1 := [(4, aI z_4), (3, aR 3 (8 * i0 + j_1)), (0, aR 2 i0), (1, aI x1), (2, aI x2)]) dX5_letSlide_34 (by decide) rfl ?_
      refine go_aload_n (q := 1) dX5_letSlide_36 rfl rfl ?_
      refine go_iconst (v := 0) dX5_letSlide_37 (by decide) ?_
      refine go_puti fp_X5_96 dX5_letSlide_38 (mX (n := 29) (by decide) rfl (by omega)) ?_
      refine nmV (fun V_5 e_V_5 => ?_)
      have h := h V_5 e_V_5
      refine go_aload_n (q := 1) dX5_letSlide_41 rfl rfl ?_
      refine go_iconst (v := 3) dX5_letSlide_42 (by decide) ?_
      refine go_cVI (As := [aI 3]) (st := []) (r := 3) (i := (8 * i0 + j_1)) mv_X2_isOf dX5_letSlide_43 ml_X5_149 (hr_Kp (Nat.le_refl d)) rfl rfl (mX (n := 29) (by decide) rfl (by omega)) rfl rfl (Nat.le_of_ble_eq_true rfl) h (fun x_7 V_6 h => ?_)
      refine go_if_eq (tgt := 63) dX5_letSlide_46 (by decide) (fun c_9 => ?_) (fun c_9 => ?_)
      · have h := h.1 c_9
        refine go_sub (al1 := [(0, aR 2 i0), (1, aI x1), (2, aI x2), (3, aR 3 (8 * i0 + j_1)), (4, aI z_4)]) [2, 3, 4, 1, 0] rfl ?_
        exact okX5_letSlide_63 i0 (by omega) x1 x2 (8 * i0 + j_1) z_4 (by omega) V_6 hk4 h
      · have h := h.2 c_9
        refine go_iload_n (q := 4) dX5_letSlide_49 rfl rfl ?_
        refine go_iconst (v := 1) dX5_letSlide_50 (by decide) ?_
        refine go_iadd dX5_letSlide_51 ?_
        refine go_aload_n (q := 2) dX5_letSlide_52 rfl rfl ?_
        refine go_geti fg_X5_32 dX5_letSlide_53 (mX (n := 3) (by decide) rfl (by omega)) ?_
        refine go_icmp_ge (tgt := 63) dX5_letSlide_56 (by decide) (fun c_8 => ?_) (fun c_8 => ?_)
        · have h := h.1 c_8
          refine go_sub (al1 := [(0, aR 2 i0), (1, aI x1), (2, aI x2), (3, aR 3 (8 * i0 + j_1)), (4, aI z_4)]) [2, 3, 4, 1, 0] rfl ?_
          exact okX5_letSlide_63 i0 (by omega) x1 x2 (8 * i0 + j_1) z_4 (by omega) V_6 hk4 h
        · have h := h.2 c_8
          refine go_iconst (v := 1) dX5_letSlide_59 (by decide) ?_
          refine go_goto (tgt := 64) dX5_letSlide_60 (by decide) ?_
          refine go_sub (al1 := [(0, aR 2 i0), (1, aI x1), (2, aI x2), (3, aR 3 (8 * i0 + j_1)), (4, aI z_4)]) [2, 3, 4, 1, 0] rfl ?_
          exact okX5_letSlide_64 i0 (by omega) x1 x2 (8 * i0 + j_1) z_4 1 (by omega) V_6 hk4 h
def wpX5_letSlide_0 (C : CT) (I4 : Int32 → Int32 → Mem → Prop) (i0 : Nat)  (V : Mem) (Q : Option AV → Mem → Prop) : Prop :=
  I4 0 0 V
set_option maxRecDepth 10000 in
theorem okX5_letSlide_0 {d : Nat} {P : Option AV → Mem → Prop} {I4 : Int32 → Int32 → Mem → Prop} (i0 : Nat) (h_i0 : i0 < 3)   (V : Mem) (hk4 : ∀ (x1 : Int32) (x2 : Int32), ∀ (V : Mem), I4 x1 x2 V → Gq (Kp (d + 1) mX5_letSlide UX P) UX cX5_letSlide 6 RX5 4 [(0, aR 2 i0), (1, aI x1), (2, aI x2)] [] V) (h : wpX5_letSlide_0 (Cl UX d) I4 i0  V P) : Gq (Kp (d + 1) mX5_letSlide UX P) UX cX5_letSlide 6 RX5 0 [(0, aR 2 i0)] [] V := by
  unfold wpX5_letSlide_0 at h
  refine go_iconst (v := 0) dX5_letSlide_0 (by decide) ?_
  refine go_istore_n (al1 := [(1, aI 0), (0, aR 2 i0)]) dX5_letSlide_1 rfl (by decide) rfl ?_
  refine go_iconst (v := 0) dX5_letSlide_2 (by decide) ?_
  refine go_istore_n (al1 := [(2, aI 0), (1, aI 0), (0, aR 2 i0)]) dX5_letSlide_3 rfl (by decide) rfl ?_
  refine go_sub (al1 := [(0, aR 2 i0), (1, aI 0), (2, aI 0)]) [2, 1, 0] rfl ?_
  exact hk4 0 0  V h
theorem clX5_letSlide {d : Nat} {P : Option AV → Mem → Prop} {I4 : Int32 → Int32 → Mem → Prop} (i0 : Nat) (h_i0 : i0 < 3)  (V : Mem) (hk4 : ∀ (x1 : Int32) (x2 : Int32), ∀ (V : Mem), I4 x1 x2 V → Gq (Kp (d + 1) mX5_letSlide UX P) UX cX5_letSlide 6 RX5 4 [(0, aR 2 i0), (1, aI x1), (2, aI x2)] [] V) (h : wpX5_letSlide_0 (Cl UX d) I4 i0  V P) : Cl UX (d + 1) mX5_letSlide [aR 2 i0] V P :=
  cl_of [(0, aR 2 i0)] (by decide) (fun _ => Nat.le_of_ble_eq_true rfl) (fun _ => rfl) (okX5_letSlide_0 i0 h_i0  V hk4 h)
theorem dX5_letMelt_0 : decode cX5_letMelt 0 = .ok (.iconst 0, 1) := by decide +kernel
theorem dX5_letMelt_1 : decode cX5_letMelt 1 = .ok (.istore_n 1, 1) := by decide +kernel
theorem dX5_letMelt_2 : decode cX5_letMelt 2 = .ok (.iload_n 1, 1) := by decide +kernel
theorem dX5_letMelt_3 : decode cX5_letMelt 3 = .ok (.aload_n 0, 1) := by decide +kernel
theorem dX5_letMelt_4 : decode cX5_letMelt 4 = .ok (.getfield 32, 3) := by decide +kernel
theorem dX5_letMelt_7 : decode cX5_letMelt 7 = .ok (.if_icmp .ge 82, 3) := by decide +kernel
theorem dX5_letMelt_10 : decode cX5_letMelt 10 = .ok (.aload_n 0, 1) := by decide +kernel
theorem dX5_letMelt_11 : decode cX5_letMelt 11 = .ok (.getfield 11, 3) := by decide +kernel
theorem dX5_letMelt_14 : decode cX5_letMelt 14 = .ok (.iload_n 1, 1) := by decide +kernel
theorem dX5_letMelt_15 : decode cX5_letMelt 15 = .ok (.aaload, 1) := by decide +kernel
theorem dX5_letMelt_16 : decode cX5_letMelt 16 = .ok (.astore_n 2, 1) := by decide +kernel
theorem dX5_letMelt_17 : decode cX5_letMelt 17 = .ok (.aload_n 2, 1) := by decide +kernel
theorem dX5_letMelt_18 : decode cX5_letMelt 18 = .ok (.getfield 96, 3) := by decide +kernel
theorem dX5_letMelt_21 : decode cX5_letMelt 21 = .ok (.ifCond .le 11, 3) := by decide +kernel
theorem dX5_letMelt_24 : decode cX5_letMelt 24 = .ok (.aload_n 0, 1) := by decide +kernel
theorem dX5_letMelt_25 : decode cX5_letMelt 25 = .ok (.aload_n 2, 1) := by decide +kernel
theorem dX5_letMelt_26 : decode cX5_letMelt 26 = .ok (.invokevirtual 153, 3) := by decide +kernel
theorem dX5_letMelt_29 : decode cX5_letMelt 29 = .ok (.goto 4, 3) := by decide +kernel
theorem dX5_letMelt_32 : decode cX5_letMelt 32 = .ok (.iconst 0, 1) := by decide +kernel
theorem dX5_letMelt_33 : decode cX5_letMelt 33 = .ok (.istore_n 3, 1) := by decide +kernel
theorem dX5_letMelt_34 : decode cX5_letMelt 34 = .ok (.aload_n 2, 1) := by decide +kernel
theorem dX5_letMelt_35 : decode cX5_letMelt 35 = .ok (.dup, 1) := by decide +kernel
theorem dX5_letMelt_36 : decode cX5_letMelt 36 = .ok (.getfield 96, 3) := by decide +kernel
theorem dX5_letMelt_39 : decode cX5_letMelt 39 = .ok (.iload_n 3, 1) := by decide +kernel
theorem dX5_letMelt_40 : decode cX5_letMelt 40 = .ok (.isub, 1) := by decide +kernel
theorem dX5_letMelt_41 : decode cX5_letMelt 41 = .ok (.putfield 96, 3) := by decide +kernel
theorem dX5_letMelt_44 : decode cX5_letMelt 44 = .ok (.iload_n 3, 1) := by decide +kernel
theorem dX5_letMelt_45 : decode cX5_letMelt 45 = .ok (.ifCond .le 28, 3) := by decide +kernel
theorem dX5_letMelt_48 : decode cX5_letMelt 48 = .ok (.aload_n 0, 1) := by decide +kernel
theorem dX5_letMelt_49 : decode cX5_letMelt 49 = .ok (.aload_n 2, 1) := by decide +kernel
theorem dX5_letMelt_50 : decode cX5_letMelt 50 = .ok (.invokevirtual 156, 3) := by decide +kernel
theorem dX5_letMelt_53 : decode cX5_letMelt 53 = .ok (.ifCond .eq 20, 3) := by decide +kernel
theorem dX5_letMelt_56 : decode cX5_letMelt 56 = .ok (.aload_n 0, 1) := by decide +kernel
theorem dX5_letMelt_57 : decode cX5_letMelt 57 = .ok (.dup, 1) := by decide +kernel
theorem dX5_letMelt_58 : decode cX5_letMelt 58 = .ok (.getfield 53, 3) := by decide +kernel
theorem dX5_letMelt_61 : decode cX5_letMelt 61 = .ok (.aload_n 2, 1) := by decide +kernel
theorem dX5_letMelt_62 : decode cX5_letMelt 62 = .ok (.iload_n 3, 1) := by decide +kernel
theorem dX5_letMelt_63 : decode cX5_letMelt 63 = .ok (.invokevirtual 139, 3) := by decide +kernel
theorem dX5_letMelt_66 : decode cX5_letMelt 66 = .ok (.iadd, 1) := by decide +kernel
theorem dX5_letMelt_67 : decode cX5_letMelt 67 = .ok (.putfield 53, 3) := by decide +kernel
theorem dX5_letMelt_70 : decode cX5_letMelt 70 = .ok (.goto 13, 3) := by decide +kernel
theorem dX5_letMelt_73 : decode cX5_letMelt 73 = .ok (.aload_n 0, 1) := by decide +kernel
theorem dX5_letMelt_74 : decode cX5_letMelt 74 = .ok (.dup, 1) := by decide +kernel
theorem dX5_letMelt_75 : decode cX5_letMelt 75 = .ok (.getfield 47, 3) := by decide +kernel
theorem dX5_letMelt_78 : decode cX5_letMelt 78 = .ok (.iload_n 3, 1) := by decide +kernel
theorem dX5_letMelt_79 : decode cX5_letMelt 79 = .ok (.iadd, 1) := by decide +kernel
theorem dX5_letMelt_80 : decode cX5_letMelt 80 = .ok (.putfield 47, 3) := by decide +kernel
theorem dX5_letMelt_83 : decode cX5_letMelt 83 = .ok (.iinc 1 1, 3) := by decide +kernel
theorem dX5_letMelt_86 : decode cX5_letMelt 86 = .ok (.goto (-84), 3) := by decide +kernel
theorem dX5_letMelt_89 : decode cX5_letMelt 89 = .ok (.return_, 1) := by decide +kernel
def wpX5_letMelt_73 (C : CT) (I2 : Int32 → Mem → Prop) (i0 : Nat) (x1 : Int32) (m2 : Nat) (x3 : Int32) (V : Mem) (Q : Option AV → Mem → Prop) : Prop :=
  (∀ V_1 : Mem, V_1 = mu V 2 i0 11 ((V 2 i0 11) + x3) → I2 (x1 + 1) V_1)
set_option maxRecDepth 10000 in
theorem okX5_letMelt_73 {d : Nat} {P : Option AV → Mem → Prop} {I2 : Int32 → Mem → Prop} (i0 : Nat) (h_i0 : i0 < 3) (x1 : Int32) (m2 : Nat) (x3 : Int32) (h_m2 : m2 < 29) (V : Mem) (hk2 : ∀ (x1 : Int32), ∀ (V : Mem), I2 x1 V → Gq (Kp (d + 1) mX5_letMelt UX P) UX cX5_letMelt 4 RX5 2 [(0, aR 2 i0), (1, aI x1)] [] V) (h : wpX5_letMelt_73 (Cl UX d) I2 i0 x1 m2 x3 V P) : Gq (Kp (d + 1) mX5_letMelt UX P) UX cX5_letMelt 4 RX5 73 [(0, aR 2 i0), (1, aI x1), (2, aR 3 m2), (3, aI x3)] [] V := by
  unfold wpX5_letMelt_73 at h
  refine go_aload_n (q := 0) dX5_letMelt_73 rfl rfl ?_
  refine go_dup dX5_letMelt_74 rfl ?_
  refine go_geti fg_X5_47 dX5_letMelt_75 (mX (n := 3) (by decide) rfl (by omega)) ?_
  refine go_iload_n (q := 3) dX5_letMelt_78 rfl rfl ?_
  refine go_iadd dX5_letMelt_79 ?_
  refine go_puti fp_X5_47 dX5_letMelt_80 (mX (n := 3) (by decide) rfl (by omega)) ?_
  refine nmV (fun V_1 e_V_1 => ?_)
  have h := h V_1 e_V_1
  refine go_iinc (q := 1) (y := 1) (al1 := [(1, aI (x1 + 1)), (0, aR 2 i0), (2, aR 3 m2), (3, aI x3)]) dX5_letMelt_83 rfl (by decide) (by decide) rfl ?_
  refine go_goto (tgt := 2) dX5_letMelt_86 (by decide) ?_
  refine go_sub (al1 := [(0, aR 2 i0), (1, aI (x1 + 1))]) [1, 0] rfl ?_
  exact hk2 (x1 + 1)  V_1 h
def wpX5_letMelt_33 (C : CT) (I2 : Int32 → Mem → Prop) (i0 : Nat) (x1 : Int32) (m2 : Nat) (s0 : Int32) (V : Mem) (Q : Option AV → Mem → Prop) : Prop :=
  (∀ V_1 : Mem, V_1 = mu V 3 m2 5 ((V 3 m2 5) - s0) → ((s0 ≤ 0 → wpX5_letMelt_73 C I2 i0 x1 m2 s0 V_1 Q) ∧ (¬ s0 ≤ 0 → (cI C mX5_owns [aR 2 i0, aR 3 m2] V_1 (fun x_3 V_2 => ((x_3 = 0 → wpX5_letMelt_73 C I2 i0 x1 m2 s0 V_2 Q) ∧ (¬ x_3 = 0 → (cI C mX2_takeWater [aR 3 m2, aI s0] V_2 (fun x_5 V_4 => (∀ V_6 : Mem, V_6 = mu V_4 2 i0 13 ((V_2 2 i0 13) + x_5) → I2 (x1 + 1) V_6))))))))))
set_option maxRecDepth 10000 in
theorem okX5_letMelt_33 {d : Nat} {P : Option AV → Mem → Prop} {I2 : Int32 → Mem → Prop} (i0 : Nat) (h_i0 : i0 < 3) (x1 : Int32) (m2 : Nat) (s0 : Int32) (h_m2 : m2 < 29) (V : Mem) (hk2 : ∀ (x1 : Int32), ∀ (V : Mem), I2 x1 V → Gq (Kp (d + 1) mX5_letMelt UX P) UX cX5_letMelt 4 RX5 2 [(0, aR 2 i0), (1, aI x1)] [] V) (h : wpX5_letMelt_33 (Cl UX d) I2 i0 x1 m2 s0 V P) : Gq (Kp (d + 1) mX5_letMelt UX P) UX cX5_letMelt 4 RX5 33 [(0, aR 2 i0), (1, aI x1), (2, aR 3 m2)] [aI s0] V := by
  unfold wpX5_letMelt_33 at h
  refine go_istore_n (al1 := [(3, aI s0), (0, aR 2 i0), (1, aI x1), (2, aR 3 m2)]) dX5_letMelt_33 rfl (by decide) rfl ?_
  refine go_aload_n (q := 3) dX5_letMelt_34 rfl rfl ?_
  refine go_dup dX5_letMelt_35 rfl ?_
  refine go_geti fg_X5_96 dX5_letMelt_36 (mX (n := 29) (by decide) rfl (by omega)) ?_
  refine go_iload_n (q := 0) dX5_letMelt_39 rfl rfl ?_
  refine go_isub dX5_letMelt_40 ?_
  refine go_puti fp_X5_96 dX5_letMelt_41 (mX (n := 29) (by decide) rfl (by omega)) ?_
  refine nmV (fun V_1 e_V_1 => ?_)
  have h := h V_1 e_V_1
  refine go_iload_n (q := 0) dX5_letMelt_44 rfl rfl ?_
  refine go_if_le (tgt := 73) dX5_letMelt_45 (by decide) (fun c_8 => ?_) (fun c_8 => ?_)
  · have h := h.1 c_8
    refine go_sub (al1 := [(0, aR 2 i0), (1, aI x1), (2, aR 3 m2), (3, aI s0)]) [1, 2, 3, 0] rfl ?_
    exact okX5_letMelt_73 i0 (by omega) x1 m2 s0 (by omega) V_1 hk2 h
  · have h := h.2 c_8
    refine go_aload_n (q := 1) dX5_letMelt_48 rfl rfl ?_
    refine go_aload_n (q := 3) dX5_letMelt_49 rfl rfl ?_
    refine go_cVI (As := [aR 3 m2]) (st := []) (r := 2) (i := i0) mv_X5_owns dX5_letMelt_50 ml_X5_156 (hr_Kp (Nat.le_refl d)) rfl rfl (mX (n := 3) (by decide) rfl (by omega)) rfl rfl (Nat.le_of_ble_eq_true rfl) h (fun x_3 V_2 h => ?_)
    refine go_if_eq (tgt := 73) dX5_letMelt_53 (by decide) (fun c_7 => ?_) (fun c_7 => ?_)
    · have h := h.1 c_7
      refine go_sub (al1 := [(0, aR 2 i0), (1, aI x1), (2, aR 3 m2), (3, aI s0)]) [1, 2, 3, 0] rfl ?_
      exact okX5_letMelt_73 i0 (by omega) x1 m2 s0 (by omega) V_2 hk2 h
    · have h := h.2 c_7
      refine go_aload_n (q := 1) dX5_letMelt_56 rfl rfl ?_
      refine go_dup dX5_letMelt_57 rfl ?_
      refine go_geti fg_X5_53 dX5_letMelt_58 (mX (n := 3) (by decide) rfl (by omega)) ?_
      refine go_aload_n (q := 3) dX5_letMelt_61 rfl rfl ?_
      refine go_iload_n (q := 0) dX5_letMelt_62 rfl rfl ?_
      refine go_cVI (As := [aI s0]) (st := [aI (V_2 2 i0 13), aR 2 i0]) (r := 3) (i := m2) mv_X2_takeWater dX5_letMelt_63 ml_X5_139 (hr_Kp (Nat.le_refl d)) rfl rfl (mX (n := 29) (by decide) rfl (by omega)) rfl rfl (Nat.le_of_ble_eq_true rfl) h (fun x_5 V_4 h => ?_)
      refine go_iadd dX5_letMelt_66 ?_
      refine go_puti fp_X5_53 dX5_letMelt_67 (mX (n := 3) (by decide) rfl (by omega)) ?_
      refine nmV (fun V_6 e_V_6 => ?_)
      have h := h V_6 e_V_6
      refine go_goto (tgt := 83) dX5_letMelt_70 (by decide) ?_
      refine go_iinc (q := 2) (y := 1) (al1 := [(1, aI (x1 + 1)), (3, aI s0), (0, aR 2 i0), (2, aR 3 m2)]) dX5_letMelt_83 rfl (by decide) (by decide) rfl ?_
      refine go_goto (tgt := 2) dX5_letMelt_86 (by decide) ?_
      refine go_sub (al1 := [(0, aR 2 i0), (1, aI (x1 + 1))]) [2, 0] rfl ?_
      exact hk2 (x1 + 1)  V_6 h
def wpX5_letMelt_2 (C : CT) (I2 : Int32 → Mem → Prop) (i0 : Nat) (x1 : Int32) (V : Mem) (Q : Option AV → Mem → Prop) : Prop :=
  (((V 2 i0 6) ≤ x1 → Q none V) ∧ (¬ (V 2 i0 6) ≤ x1 → (∃ j_1 : Nat, x1 = nI j_1 ∧ j_1 < 8 ∧ (((V 3 (8 * i0 + j_1) 5) ≤ 0 → wpX5_letMelt_33 C I2 i0 x1 (8 * i0 + j_1) 0 V Q) ∧ (¬ (V 3 (8 * i0 + j_1) 5) ≤ 0 → (cI C mX5_melts [aR 2 i0, aR 3 (8 * i0 + j_1)] V (fun x_3 V_2 => wpX5_letMelt_33 C I2 i0 x1 (8 * i0 + j_1) x_3 V_2 Q)))))))
set_option maxRecDepth 10000 in
theorem okX5_letMelt_2 {d : Nat} {P : Option AV → Mem → Prop} {I2 : Int32 → Mem → Prop} (i0 : Nat) (h_i0 : i0 < 3) (x1 : Int32)  (V : Mem) (hk2 : ∀ (x1 : Int32), ∀ (V : Mem), I2 x1 V → Gq (Kp (d + 1) mX5_letMelt UX P) UX cX5_letMelt 4 RX5 2 [(0, aR 2 i0), (1, aI x1)] [] V) (h : wpX5_letMelt_2 (Cl UX d) I2 i0 x1 V P) : Gq (Kp (d + 1) mX5_letMelt UX P) UX cX5_letMelt 4 RX5 2 [(0, aR 2 i0), (1, aI x1)] [] V := by
  unfold wpX5_letMelt_2 at h
  refine go_iload_n (q := 1) dX5_letMelt_2 rfl rfl ?_
  refine go_aload_n (q := 0) dX5_letMelt_3 rfl rfl ?_
  refine go_geti fg_X5_32 dX5_letMelt_4 (mX (n := 3) (by decide) rfl (by omega)) ?_
  refine go_icmp_ge (tgt := 89) dX5_letMelt_7 (by decide) (fun c_5 => ?_) (fun c_5 => ?_)
  · have h := h.1 c_5
    exact go_vret rfl dX5_letMelt_89 h
  · have h := h.2 c_5
    refine go_aload_n (q := 0) dX5_letMelt_10 rfl rfl ?_
    refine go_getr fg_X5_11 dX5_letMelt_11 (mX (n := 3) (by decide) rfl (by omega)) ?_
    refine go_iload_n (q := 1) dX5_letMelt_14 rfl rfl ?_
    obtain ⟨j_1, e_j_1, l_j_1, h⟩ := h
    refine go_aald (r := 13) (n := 8) (j := j_1) rfl rfl (by decide) dX5_letMelt_15 (mX (n := 3) (by decide) rfl (by omega)) e_j_1 l_j_1 ?_
    refine go_astore_n (al1 := [(2, aR 3 (8 * i0 + j_1)), (0, aR 2 i0), (1, aI x1)]) dX5_letMelt_16 rfl (by decide) rfl ?_
    refine go_aload_n (q := 0) dX5_letMelt_17 rfl rfl ?_
    refine go_geti fg_X5_96 dX5_letMelt_18 (mX (n := 29) (by decide) rfl (by omega)) ?_
    refine go_if_le (tgt := 32) dX5_letMelt_21 (by decide) (fun c_4 => ?_) (fun c_4 => ?_)
    · have h := h.1 c_4
      refine go_iconst (v := 0) dX5_letMelt_32 (by decide) ?_
      refine go_sub (al1 := [(0, aR 2 i0), (1, aI x1), (2, aR 3 (8 * i0 + j_1))]) [1, 2, 0] rfl ?_
      exact okX5_letMelt_33 i0 (by omega) x1 (8 * i0 + j_1) 0 (by omega) V hk2 h
    · have h := h.2 c_4
      refine go_aload_n (q := 1) dX5_letMelt_24 rfl rfl ?_
      refine go_aload_n (q := 0) dX5_letMelt_25 rfl rfl ?_
      refine go_cVI (As := [aR 3 (8 * i0 + j_1)]) (st := []) (r := 2) (i := i0) mv_X5_melts dX5_letMelt_26 ml_X5_153 (hr_Kp (Nat.le_refl d)) rfl rfl (mX (n := 3) (by decide) rfl (by omega)) rfl rfl (Nat.le_of_ble_eq_true rfl) h (fun x_3 V_2 h => ?_)
      refine go_goto (tgt := 33) dX5_letMelt_29 (by decide) ?_
      refine go_sub (al1 := [(0, aR 2 i0), (1, aI x1), (2, aR 3 (8 * i0 + j_1))]) [1, 2, 0] rfl ?_
      exact okX5_letMelt_33 i0 (by omega) x1 (8 * i0 + j_1) x_3 (by omega) V_2 hk2 h
def wpX5_letMelt_0 (C : CT) (I2 : Int32 → Mem → Prop) (i0 : Nat)  (V : Mem) (Q : Option AV → Mem → Prop) : Prop :=
  I2 0 V
set_option maxRecDepth 10000 in
theorem okX5_letMelt_0 {d : Nat} {P : Option AV → Mem → Prop} {I2 : Int32 → Mem → Prop} (i0 : Nat) (h_i0 : i0 < 3)   (V : Mem) (hk2 : ∀ (x1 : Int32), ∀ (V : Mem), I2 x1 V → Gq (Kp (d + 1) mX5_letMelt UX P) UX cX5_letMelt 4 RX5 2 [(0, aR 2 i0), (1, aI x1)] [] V) (h : wpX5_letMelt_0 (Cl UX d) I2 i0  V P) : Gq (Kp (d + 1) mX5_letMelt UX P) UX cX5_letMelt 4 RX5 0 [(0, aR 2 i0)] [] V := by
  unfold wpX5_letMelt_0 at h
  refine go_iconst (v := 0) dX5_letMelt_0 (by decide) ?_
  refine go_istore_n (al1 := [(1, aI 0), (0, aR 2 i0)]) dX5_letMelt_1 rfl (by decide) rfl ?_
  refine go_sub (al1 := [(0, aR 2 i0), (1, aI 0)]) [1, 0] rfl ?_
  exact hk2 0  V h
theorem clX5_letMelt {d : Nat} {P : Option AV → Mem → Prop} {I2 : Int32 → Mem → Prop} (i0 : Nat) (h_i0 : i0 < 3)  (V : Mem) (hk2 : ∀ (x1 : Int32), ∀ (V : Mem), I2 x1 V → Gq (Kp (d + 1) mX5_letMelt UX P) UX cX5_letMelt 4 RX5 2 [(0, aR 2 i0), (1, aI x1)] [] V) (h : wpX5_letMelt_0 (Cl UX d) I2 i0  V P) : Cl UX (d + 1) mX5_letMelt [aR 2 i0] V P :=
  cl_of [(0, aR 2 i0)] (by decide) (fun _ => Nat.le_of_ble_eq_true rfl) (fun _ => rfl) (okX5_letMelt_0 i0 h_i0  V hk2 h)
theorem dX5_roofsWater_0 : decode cX5_roofsWater 0 = .ok (.iconst 0, 1) := by decide +kernel
theorem dX5_roofsWater_1 : decode cX5_roofsWater 1 = .ok (.istore_n 1, 1) := by decide +kernel
theorem dX5_roofsWater_2 : decode cX5_roofsWater 2 = .ok (.iconst 0, 1) := by decide +kernel
theorem dX5_roofsWater_3 : decode cX5_roofsWater 3 = .ok (.istore_n 2, 1) := by decide +kernel
theorem dX5_roofsWater_4 : decode cX5_roofsWater 4 = .ok (.iload_n 2, 1) := by decide +kernel
theorem dX5_roofsWater_5 : decode cX5_roofsWater 5 = .ok (.aload_n 0, 1) := by decide +kernel
theorem dX5_roofsWater_6 : decode cX5_roofsWater 6 = .ok (.getfield 32, 3) := by decide +kernel
theorem dX5_roofsWater_9 : decode cX5_roofsWater 9 = .ok (.if_icmp .ge 21, 3) := by decide +kernel
theorem dX5_roofsWater_12 : decode cX5_roofsWater 12 = .ok (.iload_n 1, 1) := by decide +kernel
theorem dX5_roofsWater_13 : decode cX5_roofsWater 13 = .ok (.aload_n 0, 1) := by decide +kernel
theorem dX5_roofsWater_14 : decode cX5_roofsWater 14 = .ok (.getfield 11, 3) := by decide +kernel
theorem dX5_roofsWater_17 : decode cX5_roofsWater 17 = .ok (.iload_n 2, 1) := by decide +kernel
theorem dX5_roofsWater_18 : decode cX5_roofsWater 18 = .ok (.aaload, 1) := by decide +kernel
theorem dX5_roofsWater_19 : decode cX5_roofsWater 19 = .ok (.getfield 117, 3) := by decide +kernel
theorem dX5_roofsWater_22 : decode cX5_roofsWater 22 = .ok (.iadd, 1) := by decide +kernel
theorem dX5_roofsWater_23 : decode cX5_roofsWater 23 = .ok (.istore_n 1, 1) := by decide +kernel
theorem dX5_roofsWater_24 : decode cX5_roofsWater 24 = .ok (.iinc 2 1, 3) := by decide +kernel
theorem dX5_roofsWater_27 : decode cX5_roofsWater 27 = .ok (.goto (-23), 3) := by decide +kernel
theorem dX5_roofsWater_30 : decode cX5_roofsWater 30 = .ok (.iload_n 1, 1) := by decide +kernel
theorem dX5_roofsWater_31 : decode cX5_roofsWater 31 = .ok (.ireturn, 1) := by decide +kernel
def wpX5_roofsWater_4 (C : CT) (I4 : Int32 → Int32 → Mem → Prop) (i0 : Nat) (x1 : Int32) (x2 : Int32) (V : Mem) (Q : Option AV → Mem → Prop) : Prop :=
  (((V 2 i0 6) ≤ x2 → Q (some (aI x1)) V) ∧ (¬ (V 2 i0 6) ≤ x2 → (∃ j_1 : Nat, x2 = nI j_1 ∧ j_1 < 8 ∧ (∀ z_2 : Int32, z_2 = (x1 + (V 3 (8 * i0 + j_1) 4)) → I4 z_2 (x2 + 1) V))))
set_option maxRecDepth 10000 in
theorem okX5_roofsWater_4 {d : Nat} {P : Option AV → Mem → Prop} {I4 : Int32 → Int32 → Mem → Prop} (i0 : Nat) (h_i0 : i0 < 3) (x1 : Int32) (x2 : Int32)  (V : Mem) (hk4 : ∀ (x1 : Int32) (x2 : Int32), ∀ (V : Mem), I4 x1 x2 V → Gq (Kp (d + 1) mX5_roofsWater UX P) UX cX5_roofsWater 3 RX5 4 [(0, aR 2 i0), (1, aI x1), (2, aI x2)] [] V) (h : wpX5_roofsWater_4 (Cl UX d) I4 i0 x1 x2 V P) : Gq (Kp (d + 1) mX5_roofsWater UX P) UX cX5_roofsWater 3 RX5 4 [(0, aR 2 i0), (1, aI x1), (2, aI x2)] [] V := by
  unfold wpX5_roofsWater_4 at h
  refine go_iload_n (q := 2) dX5_roofsWater_4 rfl rfl ?_
  refine go_aload_n (q := 0) dX5_roofsWater_5 rfl rfl ?_
  refine go_geti fg_X5_32 dX5_roofsWater_6 (mX (n := 3) (by decide) rfl (by omega)) ?_
  refine go_icmp_ge (tgt := 30) dX5_roofsWater_9 (by decide) (fun c_3 => ?_) (fun c_3 => ?_)
  · have h := h.1 c_3
    refine go_iload_n (q := 1) dX5_roofsWater_30 rfl rfl ?_
    exact go_iret rfl dX5_roofsWater_31 h
  · have h := h.2 c_3
    refine go_iload_n (q := 1) dX5_roofsWater_12 rfl rfl ?_
    refine go_aload_n (q := 0) dX5_roofsWater_13 rfl rfl ?_
    refine go_getr fg_X5_11 dX5_roofsWater_14 (mX (n := 3) (by decide) rfl (by omega)) ?_
    refine go_iload_n (q := 2) dX5_roofsWater_17 rfl rfl ?_
    obtain ⟨j_1, e_j_1, l_j_1, h⟩ := h
    refine go_aald (r := 13) (n := 8) (j := j_1) rfl rfl (by decide) dX5_roofsWater_18 (mX (n := 3) (by decide) rfl (by omega)) e_j_1 l_j_1 ?_
    refine go_geti fg_X5_117 dX5_roofsWater_19 (mX (n := 29) (by decide) rfl (by omega)) ?_
    refine go_iadd dX5_roofsWater_22 ?_
    refine nmI (fun z_2 e_z_2 => ?_)
    have h := h z_2 e_z_2
    refine go_istore_n (al1 := [(1, aI z_2), (0, aR 2 i0), (2, aI x2)]) dX5_roofsWater_23 rfl (by decide) rfl ?_
    refine go_iinc (q := 2) (y := 1) (al1 := [(2, aI (x2 + 1)), (1, aI z_2), (0, aR 2 i0)]) dX5_roofsWater_24 rfl (by decide) (by decide) rfl ?_
    refine go_goto (tgt := 4) dX5_roofsWater_27 (by decide) ?_
    refine go_sub (al1 := [(0, aR 2 i0), (1, aI z_2), (2, aI (x2 + 1))]) [2, 1, 0] rfl ?_
    exact hk4 z_2 (x2 + 1)  V h
def wpX5_roofsWater_0 (C : CT) (I4 : Int32 → Int32 → Mem → Prop) (i0 : Nat)  (V : Mem) (Q : Option AV → Mem → Prop) : Prop :=
  I4 0 0 V
set_option maxRecDepth 10000 in
theorem okX5_roofsWater_0 {d : Nat} {P : Option AV → Mem → Prop} {I4 : Int32 → Int32 → Mem → Prop} (i0 : Nat) (h_i0 : i0 < 3)   (V : Mem) (hk4 : ∀ (x1 : Int32) (x2 : Int32), ∀ (V : Mem), I4 x1 x2 V → Gq (Kp (d + 1) mX5_roofsWater UX P) UX cX5_roofsWater 3 RX5 4 [(0, aR 2 i0), (1, aI x1), (2, aI x2)] [] V) (h : wpX5_roofsWater_0 (Cl UX d) I4 i0  V P) : Gq (Kp (d + 1) mX5_roofsWater UX P) UX cX5_roofsWater 3 RX5 0 [(0, aR 2 i0)] [] V := by
  unfold wpX5_roofsWater_0 at h
  refine go_iconst (v := 0) dX5_roofsWater_0 (by decide) ?_
  refine go_istore_n (al1 := [(1, aI 0), (0, aR 2 i0)]) dX5_roofsWater_1 rfl (by decide) rfl ?_
  refine go_iconst (v := 0) dX5_roofsWater_2 (by decide) ?_
  refine go_istore_n (al1 := [(2, aI 0), (1, aI 0), (0, aR 2 i0)]) dX5_roofsWater_3 rfl (by decide) rfl ?_
  refine go_sub (al1 := [(0, aR 2 i0), (1, aI 0), (2, aI 0)]) [2, 1, 0] rfl ?_
  exact hk4 0 0  V h
theorem clX5_roofsWater {d : Nat} {P : Option AV → Mem → Prop} {I4 : Int32 → Int32 → Mem → Prop} (i0 : Nat) (h_i0 : i0 < 3)  (V : Mem) (hk4 : ∀ (x1 : Int32) (x2 : Int32), ∀ (V : Mem), I4 x1 x2 V → Gq (Kp (d + 1) mX5_roofsWater UX P) UX cX5_roofsWater 3 RX5 4 [(0, aR 2 i0), (1, aI x1), (2, aI x2)] [] V) (h : wpX5_roofsWater_0 (Cl UX d) I4 i0  V P) : Cl UX (d + 1) mX5_roofsWater [aR 2 i0] V P :=
  cl_of [(0, aR 2 i0)] (by decide) (fun _ => Nat.le_of_ble_eq_true rfl) (fun _ => rfl) (okX5_roofsWater_0 i0 h_i0  V hk4 h)
theorem dX5_roofsSnow_0 : decode cX5_roofsSnow 0 = .ok (.iconst 0, 1) := by decide +kernel
theorem dX5_roofsSnow_1 : decode cX5_roofsSnow 1 = .ok (.istore_n 1, 1) := by decide +kernel
theorem dX5_roofsSnow_2 : decode cX5_roofsSnow 2 = .ok (.iconst 0, 1) := by decide +kernel
theorem dX5_roofsSnow_3 : decode cX5_roofsSnow 3 = .ok (.istore_n 2, 1) := by decide +kernel
theorem dX5_roofsSnow_4 : decode cX5_roofsSnow 4 = .ok (.iload_n 2, 1) := by decide +kernel
theorem dX5_roofsSnow_5 : decode cX5_roofsSnow 5 = .ok (.aload_n 0, 1) := by decide +kernel
theorem dX5_roofsSnow_6 : decode cX5_roofsSnow 6 = .ok (.getfield 32, 3) := by decide +kernel
theorem dX5_roofsSnow_9 : decode cX5_roofsSnow 9 = .ok (.if_icmp .ge 21, 3) := by decide +kernel
theorem dX5_roofsSnow_12 : decode cX5_roofsSnow 12 = .ok (.iload_n 1, 1) := by decide +kernel
theorem dX5_roofsSnow_13 : decode cX5_roofsSnow 13 = .ok (.aload_n 0, 1) := by decide +kernel
theorem dX5_roofsSnow_14 : decode cX5_roofsSnow 14 = .ok (.getfield 11, 3) := by decide +kernel
theorem dX5_roofsSnow_17 : decode cX5_roofsSnow 17 = .ok (.iload_n 2, 1) := by decide +kernel
theorem dX5_roofsSnow_18 : decode cX5_roofsSnow 18 = .ok (.aaload, 1) := by decide +kernel
theorem dX5_roofsSnow_19 : decode cX5_roofsSnow 19 = .ok (.getfield 96, 3) := by decide +kernel
theorem dX5_roofsSnow_22 : decode cX5_roofsSnow 22 = .ok (.iadd, 1) := by decide +kernel
theorem dX5_roofsSnow_23 : decode cX5_roofsSnow 23 = .ok (.istore_n 1, 1) := by decide +kernel
theorem dX5_roofsSnow_24 : decode cX5_roofsSnow 24 = .ok (.iinc 2 1, 3) := by decide +kernel
theorem dX5_roofsSnow_27 : decode cX5_roofsSnow 27 = .ok (.goto (-23), 3) := by decide +kernel
theorem dX5_roofsSnow_30 : decode cX5_roofsSnow 30 = .ok (.iload_n 1, 1) := by decide +kernel
theorem dX5_roofsSnow_31 : decode cX5_roofsSnow 31 = .ok (.ireturn, 1) := by decide +kernel
def wpX5_roofsSnow_4 (C : CT) (I4 : Int32 → Int32 → Mem → Prop) (i0 : Nat) (x1 : Int32) (x2 : Int32) (V : Mem) (Q : Option AV → Mem → Prop) : Prop :=
  (((V 2 i0 6) ≤ x2 → Q (some (aI x1)) V) ∧ (¬ (V 2 i0 6) ≤ x2 → (∃ j_1 : Nat, x2 = nI j_1 ∧ j_1 < 8 ∧ (∀ z_2 : Int32, z_2 = (x1 + (V 3 (8 * i0 + j_1) 5)) → I4 z_2 (x2 + 1) V))))
set_option maxRecDepth 10000 in
theorem okX5_roofsSnow_4 {d : Nat} {P : Option AV → Mem → Prop} {I4 : Int32 → Int32 → Mem → Prop} (i0 : Nat) (h_i0 : i0 < 3) (x1 : Int32) (x2 : Int32)  (V : Mem) (hk4 : ∀ (x1 : Int32) (x2 : Int32), ∀ (V : Mem), I4 x1 x2 V → Gq (Kp (d + 1) mX5_roofsSnow UX P) UX cX5_roofsSnow 3 RX5 4 [(0, aR 2 i0), (1, aI x1), (2, aI x2)] [] V) (h : wpX5_roofsSnow_4 (Cl UX d) I4 i0 x1 x2 V P) : Gq (Kp (d + 1) mX5_roofsSnow UX P) UX cX5_roofsSnow 3 RX5 4 [(0, aR 2 i0), (1, aI x1), (2, aI x2)] [] V := by
  unfold wpX5_roofsSnow_4 at h
  refine go_iload_n (q := 2) dX5_roofsSnow_4 rfl rfl ?_
  refine go_aload_n (q := 0) dX5_roofsSnow_5 rfl rfl ?_
  refine go_geti fg_X5_32 dX5_roofsSnow_6 (mX (n := 3) (by decide) rfl (by omega)) ?_
  refine go_icmp_ge (tgt := 30) dX5_roofsSnow_9 (by decide) (fun c_3 => ?_) (fun c_3 => ?_)
  · have h := h.1 c_3
    refine go_iload_n (q := 1) dX5_roofsSnow_30 rfl rfl ?_
    exact go_iret rfl dX5_roofsSnow_31 h
  · have h := h.2 c_3
    refine go_iload_n (q := 1) dX5_roofsSnow_12 rfl rfl ?_
    refine go_aload_n (q := 0) dX5_roofsSnow_13 rfl rfl ?_
    refine go_getr fg_X5_11 dX5_roofsSnow_14 (mX (n := 3) (by decide) rfl (by omega)) ?_
    refine go_iload_n (q := 2) dX5_roofsSnow_17 rfl rfl ?_
    obtain ⟨j_1, e_j_1, l_j_1, h⟩ := h
    refine go_aald (r := 13) (n := 8) (j := j_1) rfl rfl (by decide) dX5_roofsSnow_18 (mX (n := 3) (by decide) rfl (by omega)) e_j_1 l_j_1 ?_
    refine go_geti fg_X5_96 dX5_roofsSnow_19 (mX (n := 29) (by decide) rfl (by omega)) ?_
    refine go_iadd dX5_roofsSnow_22 ?_
    refine nmI (fun z_2 e_z_2 => ?_)
    have h := h z_2 e_z_2
    refine go_istore_n (al1 := [(1, aI z_2), (0, aR 2 i0), (2, aI x2)]) dX5_roofsSnow_23 rfl (by decide) rfl ?_
    refine go_iinc (q := 2) (y := 1) (al1 := [(2, aI (x2 + 1)), (1, aI z_2), (0, aR 2 i0)]) dX5_roofsSnow_24 rfl (by decide) (by decide) rfl ?_
    refine go_goto (tgt := 4) dX5_roofsSnow_27 (by decide) ?_
    refine go_sub (al1 := [(0, aR 2 i0), (1, aI z_2), (2, aI (x2 + 1))]) [2, 1, 0] rfl ?_
    exact hk4 z_2 (x2 + 1)  V h
def wpX5_roofsSnow_0 (C : CT) (I4 : Int32 → Int32 → Mem → Prop) (i0 : Nat)  (V : Mem) (Q : Option AV → Mem → Prop) : Prop :=
  I4 0 0 V
set_option maxRecDepth 10000 in
theorem okX5_roofsSnow_0 {d : Nat} {P : Option AV → Mem → Prop} {I4 : Int32 → Int32 → Mem → Prop} (i0 : Nat) (h_i0 : i0 < 3)   (V : Mem) (hk4 : ∀ (x1 : Int32) (x2 : Int32), ∀ (V : Mem), I4 x1 x2 V → Gq (Kp (d + 1) mX5_roofsSnow UX P) UX cX5_roofsSnow 3 RX5 4 [(0, aR 2 i0), (1, aI x1), (2, aI x2)] [] V) (h : wpX5_roofsSnow_0 (Cl UX d) I4 i0  V P) : Gq (Kp (d + 1) mX5_roofsSnow UX P) UX cX5_roofsSnow 3 RX5 0 [(0, aR 2 i0)] [] V := by
  unfold wpX5_roofsSnow_0 at h
  refine go_iconst (v := 0) dX5_roofsSnow_0 (by decide) ?_
  refine go_istore_n (al1 := [(1, aI 0), (0, aR 2 i0)]) dX5_roofsSnow_1 rfl (by decide) rfl ?_
  refine go_iconst (v := 0) dX5_roofsSnow_2 (by decide) ?_
  refine go_istore_n (al1 := [(2, aI 0), (1, aI 0), (0, aR 2 i0)]) dX5_roofsSnow_3 rfl (by decide) rfl ?_
  refine go_sub (al1 := [(0, aR 2 i0), (1, aI 0), (2, aI 0)]) [2, 1, 0] rfl ?_
  exact hk4 0 0  V h
theorem clX5_roofsSnow {d : Nat} {P : Option AV → Mem → Prop} {I4 : Int32 → Int32 → Mem → Prop} (i0 : Nat) (h_i0 : i0 < 3)  (V : Mem) (hk4 : ∀ (x1 : Int32) (x2 : Int32), ∀ (V : Mem), I4 x1 x2 V → Gq (Kp (d + 1) mX5_roofsSnow UX P) UX cX5_roofsSnow 3 RX5 4 [(0, aR 2 i0), (1, aI x1), (2, aI x2)] [] V) (h : wpX5_roofsSnow_0 (Cl UX d) I4 i0  V P) : Cl UX (d + 1) mX5_roofsSnow [aR 2 i0] V P :=
  cl_of [(0, aR 2 i0)] (by decide) (fun _ => Nat.le_of_ble_eq_true rfl) (fun _ => rfl) (okX5_roofsSnow_0 i0 h_i0  V hk4 h)
theorem dX5_allKilos_0 : decode cX5_allKilos 0 = .ok (.aload_n 0, 1) := by decide +kernel
theorem dX5_allKilos_1 : decode cX5_allKilos 1 = .ok (.invokevirtual 160, 3) := by decide +kernel
theorem dX5_allKilos_4 : decode cX5_allKilos 4 = .ok (.aload_n 0, 1) := by decide +kernel
theorem dX5_allKilos_5 : decode cX5_allKilos 5 = .ok (.invokevirtual 163, 3) := by decide +kernel
theorem dX5_allKilos_8 : decode cX5_allKilos 8 = .ok (.iadd, 1) := by decide +kernel
theorem dX5_allKilos_9 : decode cX5_allKilos 9 = .ok (.aload_n 0, 1) := by decide +kernel
theorem dX5_allKilos_10 : decode cX5_allKilos 10 = .ok (.getfield 44, 3) := by decide +kernel
theorem dX5_allKilos_13 : decode cX5_allKilos 13 = .ok (.iadd, 1) := by decide +kernel
theorem dX5_allKilos_14 : decode cX5_allKilos 14 = .ok (.aload_n 0, 1) := by decide +kernel
theorem dX5_allKilos_15 : decode cX5_allKilos 15 = .ok (.getfield 47, 3) := by decide +kernel
theorem dX5_allKilos_18 : decode cX5_allKilos 18 = .ok (.iadd, 1) := by decide +kernel
theorem dX5_allKilos_19 : decode cX5_allKilos 19 = .ok (.aload_n 0, 1) := by decide +kernel
theorem dX5_allKilos_20 : decode cX5_allKilos 20 = .ok (.getfield 50, 3) := by decide +kernel
theorem dX5_allKilos_23 : decode cX5_allKilos 23 = .ok (.iadd, 1) := by decide +kernel
theorem dX5_allKilos_24 : decode cX5_allKilos 24 = .ok (.aload_n 0, 1) := by decide +kernel
theorem dX5_allKilos_25 : decode cX5_allKilos 25 = .ok (.getfield 53, 3) := by decide +kernel
theorem dX5_allKilos_28 : decode cX5_allKilos 28 = .ok (.iadd, 1) := by decide +kernel
theorem dX5_allKilos_29 : decode cX5_allKilos 29 = .ok (.aload_n 0, 1) := by decide +kernel
theorem dX5_allKilos_30 : decode cX5_allKilos 30 = .ok (.getfield 59, 3) := by decide +kernel
theorem dX5_allKilos_33 : decode cX5_allKilos 33 = .ok (.iadd, 1) := by decide +kernel
theorem dX5_allKilos_34 : decode cX5_allKilos 34 = .ok (.ireturn, 1) := by decide +kernel
def wpX5_allKilos_0 (C : CT)  (i0 : Nat)  (V : Mem) (Q : Option AV → Mem → Prop) : Prop :=
  (cI C mX5_roofsWater [aR 2 i0] V (fun x_2 V_1 => (cI C mX5_roofsSnow [aR 2 i0] V_1 (fun x_4 V_3 => Q (some (aI ((((((x_2 + x_4) + (V_3 2 i0 10)) + (V_3 2 i0 11)) + (V_3 2 i0 12)) + (V_3 2 i0 13)) + (V_3 2 i0 15)))) V_3))))
set_option maxRecDepth 10000 in
theorem okX5_allKilos_0 {d : Nat} {P : Option AV → Mem → Prop}  (i0 : Nat) (h_i0 : i0 < 3)   (V : Mem)  (h : wpX5_allKilos_0 (Cl UX d)  i0  V P) : Gq (Kp (d + 1) mX5_allKilos UX P) UX cX5_allKilos 1 RX5 0 [(0, aR 2 i0)] [] V := by
  unfold wpX5_allKilos_0 at h
  refine go_aload_n (q := 0) dX5_allKilos_0 rfl rfl ?_
  refine go_cVI (As := []) (st := []) (r := 2) (i := i0) mv_X5_roofsWater dX5_allKilos_1 ml_X5_160 (hr_Kp (Nat.le_refl d)) rfl rfl (mX (n := 3) (by decide) rfl (by omega)) rfl rfl (Nat.le_of_ble_eq_true rfl) h (fun x_2 V_1 h => ?_)
  refine go_aload_n (q := 0) dX5_allKilos_4 rfl rfl ?_
  refine go_cVI (As := []) (st := [aI x_2]) (r := 2) (i := i0) mv_X5_roofsSnow dX5_allKilos_5 ml_X5_163 (hr_Kp (Nat.le_refl d)) rfl rfl (mX (n := 3) (by decide) rfl (by omega)) rfl rfl (Nat.le_of_ble_eq_true rfl) h (fun x_4 V_3 h => ?_)
  refine go_iadd dX5_allKilos_8 ?_
  refine go_aload_n (q := 0) dX5_allKilos_9 rfl rfl ?_
  refine go_geti fg_X5_44 dX5_allKilos_10 (mX (n := 3) (by decide) rfl (by omega)) ?_
  refine go_iadd dX5_allKilos_13 ?_
  refine go_aload_n (q := 0) dX5_allKilos_14 rfl rfl ?_
  refine go_geti fg_X5_47 dX5_allKilos_15 (mX (n := 3) (by decide) rfl (by omega)) ?_
  refine go_iadd dX5_allKilos_18 ?_
  refine go_aload_n (q := 0) dX5_allKilos_19 rfl rfl ?_
  refine go_geti fg_X5_50 dX5_allKilos_20 (mX (n := 3) (by decide) rfl (by omega)) ?_
  refine go_iadd dX5_allKilos_23 ?_
  refine go_aload_n (q := 0) dX5_allKilos_24 rfl rfl ?_
  refine go_geti fg_X5_53 dX5_allKilos_25 (mX (n := 3) (by decide) rfl (by omega)) ?_
  refine go_iadd dX5_allKilos_28 ?_
  refine go_aload_n (q := 0) dX5_allKilos_29 rfl rfl ?_
  refine go_geti fg_X5_59 dX5_allKilos_30 (mX (n := 3) (by decide) rfl (by omega)) ?_
  refine go_iadd dX5_allKilos_33 ?_
  exact go_iret rfl dX5_allKilos_34 h
theorem clX5_allKilos {d : Nat} {P : Option AV → Mem → Prop}  (i0 : Nat) (h_i0 : i0 < 3)  (V : Mem)  (h : wpX5_allKilos_0 (Cl UX d)  i0  V P) : Cl UX (d + 1) mX5_allKilos [aR 2 i0] V P :=
  cl_of [(0, aR 2 i0)] (by decide) (fun _ => Nat.le_of_ble_eq_true rfl) (fun _ => rfl) (okX5_allKilos_0 i0 h_i0  V  h)
