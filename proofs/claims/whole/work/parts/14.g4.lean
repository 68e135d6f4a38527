theorem dX7_in_0 : decode cX7_in 0 = .ok (.iload_n 0, 1) := by decide +kernel
theorem dX7_in_1 : decode cX7_in 1 = .ok (.iload_n 1, 1) := by decide +kernel
theorem dX7_in_2 : decode cX7_in 2 = .ok (.if_icmp .lt 12, 3) := by decide +kernel
theorem dX7_in_5 : decode cX7_in 5 = .ok (.iload_n 0, 1) := by decide +kernel
theorem dX7_in_6 : decode cX7_in 6 = .ok (.iload_n 2, 1) := by decide +kernel
theorem dX7_in_7 : decode cX7_in 7 = .ok (.if_icmp .gt 7, 3) := by decide +kernel
theorem dX7_in_10 : decode cX7_in 10 = .ok (.iconst 1, 1) := by decide +kernel
theorem dX7_in_11 : decode cX7_in 11 = .ok (.goto 4, 3) := by decide +kernel
theorem dX7_in_14 : decode cX7_in 14 = .ok (.iconst 0, 1) := by decide +kernel
theorem dX7_in_15 : decode cX7_in 15 = .ok (.ireturn, 1) := by decide +kernel
def wpX7_in_0 (C : CT)   (x0 : Int32) (x1 : Int32) (x2 : Int32) (V : Mem) (Q : Option AV → Mem → Prop) : Prop :=
  ((x0 < x1 → Q (some (aI 0)) V) ∧ (¬ x0 < x1 → ((x2 < x0 → Q (some (aI 0)) V) ∧ (¬ x2 < x0 → Q (some (aI 1)) V))))
set_option maxRecDepth 10000 in
theorem okX7_in_0 {d : Nat} {P : Option AV → Mem → Prop}    (x0 : Int32) (x1 : Int32) (x2 : Int32)  (V : Mem)  (h : wpX7_in_0 (Cl UM d)   x0 x1 x2 V P) : Gq (Kp (d + 1) mX7_in UM P) UM cX7_in 3 RX7 0 [(0, aI x0), (1, aI x1), (2, aI x2)] [] V := by
  unfold wpX7_in_0 at h
  refine go_iload_n (q := 0) dX7_in_0 rfl rfl ?_
  refine go_iload_n (q := 1) dX7_in_1 rfl rfl ?_
  refine go_icmp_lt (tgt := 14) dX7_in_2 (by decide) (fun c_2 => ?_) (fun c_2 => ?_)
  · have h := h.1 c_2
    refine go_iconst (v := 0) dX7_in_14 (by decide) ?_
    exact go_bret rfl dX7_in_15 (by decide) h
  · have h := h.2 c_2
    refine go_iload_n (q := 0) dX7_in_5 rfl rfl ?_
    refine go_iload_n (q := 2) dX7_in_6 rfl rfl ?_
    refine go_icmp_gt (tgt := 14) dX7_in_7 (by decide) (fun c_1 => ?_) (fun c_1 => ?_)
    · have h := h.1 c_1
      refine go_iconst (v := 0) dX7_in_14 (by decide) ?_
      exact go_bret rfl dX7_in_15 (by decide) h
    · have h := h.2 c_1
      refine go_iconst (v := 1) dX7_in_10 (by decide) ?_
      refine go_goto (tgt := 15) dX7_in_11 (by decide) ?_
      exact go_bret rfl dX7_in_15 (by decide) h
theorem clX7_in {d : Nat} {P : Option AV → Mem → Prop}    (x0 : Int32) (x1 : Int32) (x2 : Int32) (V : Mem)  (h : wpX7_in_0 (Cl UM d)   x0 x1 x2 V P) : Cl UM (d + 1) mX7_in [aI x0, aI x1, aI x2] V P :=
  cl_of [(0, aI x0), (1, aI x1), (2, aI x2)] (by decide) (fun _ => Nat.le_of_ble_eq_true rfl) (fun _ => rfl) (okX7_in_0   x0 x1 x2 V  h)
theorem dX7_within_0 : decode cX7_within 0 = .ok (.iload_n 0, 1) := by decide +kernel
theorem dX7_within_1 : decode cX7_within 1 = .ok (.iload_n 1, 1) := by decide +kernel
theorem dX7_within_2 : decode cX7_within 2 = .ok (.if_icmp .ge 7, 3) := by decide +kernel
theorem dX7_within_5 : decode cX7_within 5 = .ok (.iload_n 1, 1) := by decide +kernel
theorem dX7_within_6 : decode cX7_within 6 = .ok (.goto 13, 3) := by decide +kernel
theorem dX7_within_9 : decode cX7_within 9 = .ok (.iload_n 0, 1) := by decide +kernel
theorem dX7_within_10 : decode cX7_within 10 = .ok (.iload_n 2, 1) := by decide +kernel
theorem dX7_within_11 : decode cX7_within 11 = .ok (.if_icmp .le 7, 3) := by decide +kernel
theorem dX7_within_14 : decode cX7_within 14 = .ok (.iload_n 2, 1) := by decide +kernel
theorem dX7_within_15 : decode cX7_within 15 = .ok (.goto 4, 3) := by decide +kernel
theorem dX7_within_18 : decode cX7_within 18 = .ok (.iload_n 0, 1) := by decide +kernel
theorem dX7_within_19 : decode cX7_within 19 = .ok (.ireturn, 1) := by decide +kernel
def wpX7_within_0 (C : CT)   (x0 : Int32) (x1 : Int32) (x2 : Int32) (V : Mem) (Q : Option AV → Mem → Prop) : Prop :=
  ((x1 ≤ x0 → ((x0 ≤ x2 → Q (some (aI x0)) V) ∧ (¬ x0 ≤ x2 → Q (some (aI x2)) V))) ∧ (¬ x1 ≤ x0 → Q (some (aI x1)) V))
set_option maxRecDepth 10000 in
theorem okX7_within_0 {d : Nat} {P : Option AV → Mem → Prop}    (x0 : Int32) (x1 : Int32) (x2 : Int32)  (V : Mem)  (h : wpX7_within_0 (Cl UM d)   x0 x1 x2 V P) : Gq (Kp (d + 1) mX7_within UM P) UM cX7_within 3 RX7 0 [(0, aI x0), (1, aI x1), (2, aI x2)] [] V := by
  unfold wpX7_within_0 at h
  refine go_iload_n (q := 0) dX7_within_0 rfl rfl ?_
  refine go_iload_n (q := 1) dX7_within_1 rfl rfl ?_
  refine go_icmp_ge (tgt := 9) dX7_within_2 (by decide) (fun c_2 => ?_) (fun c_2 => ?_)
  · have h := h.1 c_2
    refine go_iload_n (q := 0) dX7_within_9 rfl rfl ?_
    refine go_iload_n (q := 2) dX7_within_10 rfl rfl ?_
    refine go_icmp_le (tgt := 18) dX7_within_11 (by decide) (fun c_1 => ?_) (fun c_1 => ?_)
    · have h := h.1 c_1
      refine go_iload_n (q := 0) dX7_within_18 rfl rfl ?_
      exact go_iret rfl dX7_within_19 h
    · have h := h.2 c_1
      refine go_iload_n (q := 2) dX7_within_14 rfl rfl ?_
      refine go_goto (tgt := 19) dX7_within_15 (by decide) ?_
      exact go_iret rfl dX7_within_19 h
  · have h := h.2 c_2
    refine go_iload_n (q := 1) dX7_within_5 rfl rfl ?_
    refine go_goto (tgt := 19) dX7_within_6 (by decide) ?_
    exact go_iret rfl dX7_within_19 h
theorem clX7_within {d : Nat} {P : Option AV → Mem → Prop}    (x0 : Int32) (x1 : Int32) (x2 : Int32) (V : Mem)  (h : wpX7_within_0 (Cl UM d)   x0 x1 x2 V P) : Cl UM (d + 1) mX7_within [aI x0, aI x1, aI x2] V P :=
  cl_of [(0, aI x0), (1, aI x1), (2, aI x2)] (by decide) (fun _ => Nat.le_of_ble_eq_true rfl) (fun _ => rfl) (okX7_within_0   x0 x1 x2 V  h)
theorem dX7_copyAll_0 : decode cX7_copyAll 0 = .ok (.iconst 0, 1) := by decide +kernel
theorem dX7_copyAll_1 : decode cX7_copyAll 1 = .ok (.istore_n 2, 1) := by decide +kernel
theorem dX7_copyAll_2 : decode cX7_copyAll 2 = .ok (.iload_n 2, 1) := by decide +kernel
theorem dX7_copyAll_3 : decode cX7_copyAll 3 = .ok (.sipush 1479, 3) := by decide +kernel
theorem dX7_copyAll_6 : decode cX7_copyAll 6 = .ok (.if_icmp .ge 15, 3) := by decide +kernel
theorem dX7_copyAll_9 : decode cX7_copyAll 9 = .ok (.aload_n 1, 1) := by decide +kernel
theorem dX7_copyAll_10 : decode cX7_copyAll 10 = .ok (.iload_n 2, 1) := by decide +kernel
theorem dX7_copyAll_11 : decode cX7_copyAll 11 = .ok (.aload_n 0, 1) := by decide +kernel
theorem dX7_copyAll_12 : decode cX7_copyAll 12 = .ok (.iload_n 2, 1) := by decide +kernel
theorem dX7_copyAll_13 : decode cX7_copyAll 13 = .ok (.iaload, 1) := by decide +kernel
theorem dX7_copyAll_14 : decode cX7_copyAll 14 = .ok (.iastore, 1) := by decide +kernel
theorem dX7_copyAll_15 : decode cX7_copyAll 15 = .ok (.iinc 2 1, 3) := by decide +kernel
theorem dX7_copyAll_18 : decode cX7_copyAll 18 = .ok (.goto (-16), 3) := by decide +kernel
theorem dX7_copyAll_21 : decode cX7_copyAll 21 = .ok (.return_, 1) := by decide +kernel
def wpX7_copyAll_25_27_2 (C : CT) (I2 : Int32 → Mem → Prop)  (x2 : Int32) (V : Mem) (Q : Option AV → Mem → Prop) : Prop :=
  ((1479 ≤ x2 → Q none V) ∧ (¬ 1479 ≤ x2 → (∃ j_1 : Nat, x2 = nI j_1 ∧ j_1 < 1479 ∧ (∀ V_2 : Mem, V_2 = mu V 27 0 j_1 (V 25 0 j_1) → I2 (x2 + 1) V_2))))
set_option maxRecDepth 10000 in
theorem okX7_copyAll_25_27_2 {d : Nat} {P : Option AV → Mem → Prop} {I2 : Int32 → Mem → Prop}   (x2 : Int32)  (V : Mem) (hk2 : ∀ (x2 : Int32), ∀ (V : Mem), I2 x2 V → Gq (Kp (d + 1) mX7_copyAll UM P) UM cX7_copyAll 3 RX7 2 [(0, aR 25 0), (1, aR 27 0), (2, aI x2)] [] V) (h : wpX7_copyAll_25_27_2 (Cl UM d) I2  x2 V P) : Gq (Kp (d + 1) mX7_copyAll UM P) UM cX7_copyAll 3 RX7 2 [(0, aR 25 0), (1, aR 27 0), (2, aI x2)] [] V := by
  unfold wpX7_copyAll_25_27_2 at h
  refine go_iload_n (q := 2) dX7_copyAll_2 rfl rfl ?_
  refine go_sipush (v := 1479) dX7_copyAll_3 (by decide) ?_
  refine go_icmp_ge (tgt := 21) dX7_copyAll_6 (by decide) (fun c_3 => ?_) (fun c_3 => ?_)
  · have h := h.1 c_3
    exact go_vret rfl dX7_copyAll_21 h
  · have h := h.2 c_3
    refine go_aload_n (q := 1) dX7_copyAll_9 rfl rfl ?_
    refine go_iload_n (q := 2) dX7_copyAll_10 rfl rfl ?_
    refine go_aload_n (q := 0) dX7_copyAll_11 rfl rfl ?_
    refine go_iload_n (q := 2) dX7_copyAll_12 rfl rfl ?_
    obtain ⟨j_1, e_j_1, l_j_1, h⟩ := h
    refine go_iald (r := 25) (n := 1479) (j := j_1) rfl (by decide) dX7_copyAll_13 (mM (by decide) (by decide) rfl) e_j_1 l_j_1 ?_
    refine go_iast (r := 27) (n := 1479) (j := j_1) rfl (by decide) dX7_copyAll_14 (mM (by decide) (by decide) rfl) e_j_1 (by omega) ?_
    refine nmV (fun V_2 e_V_2 => ?_)
    have h := h V_2 e_V_2
    refine go_iinc (q := 2) (y := 1) (al1 := [(2, aI (x2 + 1)), (0, aR 25 0), (1, aR 27 0)]) dX7_copyAll_15 rfl (by decide) (by decide) rfl ?_
    refine go_goto (tgt := 2) dX7_copyAll_18 (by decide) ?_
    refine go_sub (al1 := [(0, aR 25 0), (1, aR 27 0), (2, aI (x2 + 1))]) [1, 2, 0] rfl ?_
    exact hk2 (x2 + 1)  V_2 h
def wpX7_copyAll_25_27_0 (C : CT) (I2 : Int32 → Mem → Prop)   (V : Mem) (Q : Option AV → Mem → Prop) : Prop :=
  I2 0 V
set_option maxRecDepth 10000 in
theorem okX7_copyAll_25_27_0 {d : Nat} {P : Option AV → Mem → Prop} {I2 : Int32 → Mem → Prop}     (V : Mem) (hk2 : ∀ (x2 : Int32), ∀ (V : Mem), I2 x2 V → Gq (Kp (d + 1) mX7_copyAll UM P) UM cX7_copyAll 3 RX7 2 [(0, aR 25 0), (1, aR 27 0), (2, aI x2)] [] V) (h : wpX7_copyAll_25_27_0 (Cl UM d) I2   V P) : Gq (Kp (d + 1) mX7_copyAll UM P) UM cX7_copyAll 3 RX7 0 [(0, aR 25 0), (1, aR 27 0)] [] V := by
  unfold wpX7_copyAll_25_27_0 at h
  refine go_iconst (v := 0) dX7_copyAll_0 (by decide) ?_
  refine go_istore_n (al1 := [(2, aI 0), (0, aR 25 0), (1, aR 27 0)]) dX7_copyAll_1 rfl (by decide) rfl ?_
  refine go_sub (al1 := [(0, aR 25 0), (1, aR 27 0), (2, aI 0)]) [1, 2, 0] rfl ?_
  exact hk2 0  V h
theorem clX7_copyAll_25_27 {d : Nat} {P : Option AV → Mem → Prop} {I2 : Int32 → Mem → Prop}    (V : Mem) (hk2 : ∀ (x2 : Int32), ∀ (V : Mem), I2 x2 V → Gq (Kp (d + 1) mX7_copyAll UM P) UM cX7_copyAll 3 RX7 2 [(0, aR 25 0), (1, aR 27 0), (2, aI x2)] [] V) (h : wpX7_copyAll_25_27_0 (Cl UM d) I2   V P) : Cl UM (d + 1) mX7_copyAll [aR 25 0, aR 27 0] V P :=
  cl_of [(0, aR 25 0), (1, aR 27 0)] (by decide) (fun _ => Nat.le_of_ble_eq_true rfl) (fun _ => rfl) (okX7_copyAll_25_27_0    V hk2 h)
def wpX7_copyAll_26_25_2 (C : CT) (I2 : Int32 → Mem → Prop)  (x2 : Int32) (V : Mem) (Q : Option AV → Mem → Prop) : Prop :=
  ((1479 ≤ x2 → Q none V) ∧ (¬ 1479 ≤ x2 → (∃ j_1 : Nat, x2 = nI j_1 ∧ j_1 < 1479 ∧ (∀ V_2 : Mem, V_2 = mu V 25 0 j_1 (V 26 0 j_1) → I2 (x2 + 1) V_2))))
set_option maxRecDepth 10000 in
theorem okX7_copyAll_26_25_2 {d : Nat} {P : Option AV → Mem → Prop} {I2 : Int32 → Mem → Prop}   (x2 : Int32)  (V : Mem) (hk2 : ∀ (x2 : Int32), ∀ (V : Mem), I2 x2 V → Gq (Kp (d + 1) mX7_copyAll UM P) UM cX7_copyAll 3 RX7 2 [(0, aR 26 0), (1, aR 25 0), (2, aI x2)] [] V) (h : wpX7_copyAll_26_25_2 (Cl UM d) I2  x2 V P) : Gq (Kp (d + 1) mX7_copyAll UM P) UM cX7_copyAll 3 RX7 2 [(0, aR 26 0), (1, aR 25 0), (2, aI x2)] [] V := by
  unfold wpX7_copyAll_26_25_2 at h
  refine go_iload_n (q := 2) dX7_copyAll_2 rfl rfl ?_
  refine go_sipush (v := 1479) dX7_copyAll_3 (by decide) ?_
  refine go_icmp_ge (tgt := 21) dX7_copyAll_6 (by decide) (fun c_3 => ?_) (fun c_3 => ?_)
  · have h := h.1 c_3
    exact go_vret rfl dX7_copyAll_21 h
  · have h := h.2 c_3
    refine go_aload_n (q := 1) dX7_copyAll_9 rfl rfl ?_
    refine go_iload_n (q := 2) dX7_copyAll_10 rfl rfl ?_
    refine go_aload_n (q := 0) dX7_copyAll_11 rfl rfl ?_
    refine go_iload_n (q := 2) dX7_copyAll_12 rfl rfl ?_
    obtain ⟨j_1, e_j_1, l_j_1, h⟩ := h
    refine go_iald (r := 26) (n := 1479) (j := j_1) rfl (by decide) dX7_copyAll_13 (mM (by decide) (by decide) rfl) e_j_1 l_j_1 ?_
    refine go_iast (r := 25) (n := 1479) (j := j_1) rfl (by decide) dX7_copyAll_14 (mM (by decide) (by decide) rfl) e_j_1 (by omega) ?_
    refine nmV (fun V_2 e_V_2 => ?_)
    have h := h V_2 e_V_2
    refine go_iinc (q := 2) (y := 1) (al1 := [(2, aI (x2 + 1)), (0, aR 26 0), (1, aR 25 0)]) dX7_copyAll_15 rfl (by decide) (by decide) rfl ?_
    refine go_goto (tgt := 2) dX7_copyAll_18 (by decide) ?_
    refine go_sub (al1 := [(0, aR 26 0), (1, aR 25 0), (2, aI (x2 + 1))]) [1, 2, 0] rfl ?_
    exact hk2 (x2 + 1)  V_2 h
def wpX7_copyAll_26_25_0 (C : CT) (I2 : Int32 → Mem → Prop)   (V : Mem) (Q : Option AV → Mem → Prop) : Prop :=
  I2 0 V
set_option maxRecDepth 10000 in
theorem okX7_copyAll_26_25_0 {d : Nat} {P : Option AV → Mem → Prop} {I2 : Int32 → Mem → Prop}     (V : Mem) (hk2 : ∀ (x2 : Int32), ∀ (V : Mem), I2 x2 V → Gq (Kp (d + 1) mX7_copyAll UM P) UM cX7_copyAll 3 RX7 2 [(0, aR 26 0), (1, aR 25 0), (2, aI x2)] [] V) (h : wpX7_copyAll_26_25_0 (Cl UM d) I2   V P) : Gq (Kp (d + 1) mX7_copyAll UM P) UM cX7_copyAll 3 RX7 0 [(0, aR 26 0), (1, aR 25 0)] [] V := by
  unfold wpX7_copyAll_26_25_0 at h
  refine go_iconst (v := 0) dX7_copyAll_0 (by decide) ?_
  refine go_istore_n (al1 := [(2, aI 0), (0, aR 26 0), (1, aR 25 0)]) dX7_copyAll_1 rfl (by decide) rfl ?_
  refine go_sub (al1 := [(0, aR 26 0), (1, aR 25 0), (2, aI 0)]) [1, 2, 0] rfl ?_
  exact hk2 0  V h
theorem clX7_copyAll_26_25 {d : Nat} {P : Option AV → Mem → Prop} {I2 : Int32 → Mem → Prop}    (V : Mem) (hk2 : ∀ (x2 : Int32), ∀ (V : Mem), I2 x2 V → Gq (Kp (d + 1) mX7_copyAll UM P) UM cX7_copyAll 3 RX7 2 [(0, aR 26 0), (1, aR 25 0), (2, aI x2)] [] V) (h : wpX7_copyAll_26_25_0 (Cl UM d) I2   V P) : Cl UM (d + 1) mX7_copyAll [aR 26 0, aR 25 0] V P :=
  cl_of [(0, aR 26 0), (1, aR 25 0)] (by decide) (fun _ => Nat.le_of_ble_eq_true rfl) (fun _ => rfl) (okX7_copyAll_26_25_0    V hk2 h)
def wpX7_copyAll_27_25_2 (C : CT) (I2 : Int32 → Mem → Prop)  (x2 : Int32) (V : Mem) (Q : Option AV → Mem → Prop) : Prop :=
  ((1479 ≤ x2 → Q none V) ∧ (¬ 1479 ≤ x2 → (∃ j_1 : Nat, x2 = nI j_1 ∧ j_1 < 1479 ∧ (∀ V_2 : Mem, V_2 = mu V 25 0 j_1 (V 27 0 j_1) → I2 (x2 + 1) V_2))))
set_option maxRecDepth 10000 in
theorem okX7_copyAll_27_25_2 {d : Nat} {P : Option AV → Mem → Prop} {I2 : Int32 → Mem → Prop}   (x2 : Int32)  (V : Mem) (hk2 : ∀ (x2 : Int32), ∀ (V : Mem), I2 x2 V → Gq (Kp (d + 1) mX7_copyAll UM P) UM cX7_copyAll 3 RX7 2 [(0, aR 27 0), (1, aR 25 0), (2, aI x2)] [] V) (h : wpX7_copyAll_27_25_2 (Cl UM d) I2  x2 V P) : Gq (Kp (d + 1) mX7_copyAll UM P) UM cX7_copyAll 3 RX7 2 [(0, aR 27 0), (1, aR 25 0), (2, aI x2)] [] V := by
  unfold wpX7_copyAll_27_25_2 at h
  refine go_iload_n (q := 2) dX7_copyAll_2 rfl rfl ?_
  refine go_sipush (v := 1479) dX7_copyAll_3 (by decide) ?_
  refine go_icmp_ge (tgt := 21) dX7_copyAll_6 (by decide) (fun c_3 => ?_) (fun c_3 => ?_)
  · have h := h.1 c_3
    exact go_vret rfl dX7_copyAll_21 h
  · have h := h.2 c_3
    refine go_aload_n (q := 1) dX7_copyAll_9 rfl rfl ?_
    refine go_iload_n (q := 2) dX7_copyAll_10 rfl rfl ?_
    refine go_aload_n (q := 0) dX7_copyAll_11 rfl rfl ?_
    refine go_iload_n (q := 2) dX7_copyAll_12 rfl rfl ?_
    obtain ⟨j_1, e_j_1, l_j_1, h⟩ := h
    refine go_iald (r := 27) (n := 1479) (j := j_1) rfl (by decide) dX7_copyAll_13 (mM (by decide) (by decide) rfl) e_j_1 l_j_1 ?_
    refine go_iast (r := 25) (n := 1479) (j := j_1) rfl (by decide) dX7_copyAll_14 (mM (by decide) (by decide) rfl) e_j_1 (by omega) ?_
    refine nmV (fun V_2 e_V_2 => ?_)
    have h := h V_2 e_V_2
    refine go_iinc (q := 2) (y := 1) (al1 := [(2, aI (x2 + 1)), (0, aR 27 0), (1, aR 25 0)]) dX7_copyAll_15 rfl (by decide) (by decide) rfl ?_
    refine go_goto (tgt := 2) dX7_copyAll_18 (by decide) ?_
    refine go_sub (al1 := [(0, aR 27 0), (1, aR 25 0), (2, aI (x2 + 1))]) [1, 2, 0] rfl ?_
    exact hk2 (x2 + 1)  V_2 h
def wpX7_copyAll_27_25_0 (C : CT) (I2 : Int32 → Mem → Prop)   (V : Mem) (Q : Option AV → Mem → Prop) : Prop :=
  I2 0 V
set_option maxRecDepth 10000 in
theorem okX7_copyAll_27_25_0 {d : Nat} {P : Option AV → Mem → Prop} {I2 : Int32 → Mem → Prop}     (V : Mem) (hk2 : ∀ (x2 : Int32), ∀ (V : Mem), I2 x2 V → Gq (Kp (d + 1) mX7_copyAll UM P) UM cX7_copyAll 3 RX7 2 [(0, aR 27 0), (1, aR 25 0), (2, aI x2)] [] V) (h : wpX7_copyAll_27_25_0 (Cl UM d) I2   V P) : Gq (Kp (d + 1) mX7_copyAll UM P) UM cX7_copyAll 3 RX7 0 [(0, aR 27 0), (1, aR 25 0)] [] V := by
  unfold wpX7_copyAll_27_25_0 at h
  refine go_iconst (v := 0) dX7_copyAll_0 (by decide) ?_
  refine go_istore_n (al1 := [(2, aI 0), (0, aR 27 0), (1, aR 25 0)]) dX7_copyAll_1 rfl (by decide) rfl ?_
  refine go_sub (al1 := [(0, aR 27 0), (1, aR 25 0), (2, aI 0)]) [1, 2, 0] rfl ?_
  exact hk2 0  V h
theorem clX7_copyAll_27_25 {d : Nat} {P : Option AV → Mem → Prop} {I2 : Int32 → Mem → Prop}    (V : Mem) (hk2 : ∀ (x2 : Int32), ∀ (V : Mem), I2 x2 V → Gq (Kp (d + 1) mX7_copyAll UM P) UM cX7_copyAll 3 RX7 2 [(0, aR 27 0), (1, aR 25 0), (2, aI x2)] [] V) (h : wpX7_copyAll_27_25_0 (Cl UM d) I2   V P) : Cl UM (d + 1) mX7_copyAll [aR 27 0, aR 25 0] V P :=
  cl_of [(0, aR 27 0), (1, aR 25 0)] (by decide) (fun _ => Nat.le_of_ble_eq_true rfl) (fun _ => rfl) (okX7_copyAll_27_25_0    V hk2 h)
def wpX7_copyAll_25_26_2 (C : CT) (I2 : Int32 → Mem → Prop)  (x2 : Int32) (V : Mem) (Q : Option AV → Mem → Prop) : Prop :=
  ((1479 ≤ x2 → Q none V) ∧ (¬ 1479 ≤ x2 → (∃ j_1 : Nat, x2 = nI j_1 ∧ j_1 < 1479 ∧ (∀ V_2 : Mem, V_2 = mu V 26 0 j_1 (V 25 0 j_1) → I2 (x2 + 1) V_2))))
set_option maxRecDepth 10000 in
theorem okX7_copyAll_25_26_2 {d : Nat} {P : Option AV → Mem → Prop} {I2 : Int32 → Mem → Prop}   (x2 : Int32)  (V : Mem) (hk2 : ∀ (x2 : Int32), ∀ (V : Mem), I2 x2 V → Gq (Kp (d + 1) mX7_copyAll UM P) UM cX7_copyAll 3 RX7 2 [(0, aR 25 0), (1, aR 26 0), (2, aI x2)] [] V) (h : wpX7_copyAll_25_26_2 (Cl UM d) I2  x2 V P) : Gq (Kp (d + 1) mX7_copyAll UM P) UM cX7_copyAll 3 RX7 2 [(0, aR 25 0), (1, aR 26 0), (2, aI x2)] [] V := by
  unfold wpX7_copyAll_25_26_2 at h
  refine go_iload_n (q := 2) dX7_copyAll_2 rfl rfl ?_
  refine go_sipush (v := 1479) dX7_copyAll_3 (by decide) ?_
  refine go_icmp_ge (tgt := 21) dX7_copyAll_6 (by decide) (fun c_3 => ?_) (fun c_3 => ?_)
  · have h := h.1 c_3
    exact go_vret rfl dX7_copyAll_21 h
  · have h := h.2 c_3
    refine go_aload_n (q := 1) dX7_copyAll_9 rfl rfl ?_
    refine go_iload_n (q := 2) dX7_copyAll_10 rfl rfl ?_
    refine go_aload_n (q := 0) dX7_copyAll_11 rfl rfl ?_
    refine go_iload_n (q := 2) dX7_copyAll_12 rfl rfl ?_
    obtain ⟨j_1, e_j_1, l_j_1, h⟩ := h
    refine go_iald (r := 25) (n := 1479) (j := j_1) rfl (by decide) dX7_copyAll_13 (mM (by decide) (by decide) rfl) e_j_1 l_j_1 ?_
    refine go_iast (r := 26) (n := 1479) (j := j_1) rfl (by decide) dX7_copyAll_14 (mM (by decide) (by decide) rfl) e_j_1 (by omega) ?_
    refine nmV (fun V_2 e_V_2 => ?_)
    have h := h V_2 e_V_2
    refine go_iinc (q := 2) (y := 1) (al1 := [(2, aI (x2 + 1)), (0, aR 25 0), (1, aR 26 0)]) dX7_copyAll_15 rfl (by decide) (by decide) rfl ?_
    refine go_goto (tgt := 2) dX7_copyAll_18 (by decide) ?_
    refine go_sub (al1 := [(0, aR 25 0), (1, aR 26 0), (2, aI (x2 + 1))]) [1, 2, 0] rfl ?_
    exact hk2 (x2 + 1)  V_2 h
def wpX7_copyAll_25_26_0 (C : CT) (I2 : Int32 → Mem → Prop)   (V : Mem) (Q : Option AV → Mem → Prop) : Prop :=
  I2 0 V
set_option maxRecDepth 10000 in
theorem okX7_copyAll_25_26_0 {d : Nat} {P : Option AV → Mem → Prop} {I2 : Int32 → Mem → Prop}     (V : Mem) (hk2 : ∀ (x2 : Int32), ∀ (V : Mem), I2 x2 V → Gq (Kp (d + 1) mX7_copyAll UM P) UM cX7_copyAll 3 RX7 2 [(0, aR 25 0), (1, aR 26 0), (2, aI x2)] [] V) (h : wpX7_copyAll_25_26_0 (Cl UM d) I2   V P) : Gq (Kp (d + 1) mX7_copyAll UM P) UM cX7_copyAll 3 RX7 0 [(0, aR 25 0), (1, aR 26 0)] [] V := by
  unfold wpX7_copyAll_25_26_0 at h
  refine go_iconst (v := 0) dX7_copyAll_0 (by decide) ?_
  refine go_istore_n (al1 := [(2, aI 0), (0, aR 25 0), (1, aR 26 0)]) dX7_copyAll_1 rfl (by decide) rfl ?_
  refine go_sub (al1 := [(0, aR 25 0), (1, aR 26 0), (2, aI 0)]) [1, 2, 0] rfl ?_
  exact hk2 0  V h
theorem clX7_copyAll_25_26 {d : Nat} {P : Option AV → Mem → Prop} {I2 : Int32 → Mem → Prop}    (V : Mem) (hk2 : ∀ (x2 : Int32), ∀ (V : Mem), I2 x2 V → Gq (Kp (d + 1) mX7_copyAll UM P) UM cX7_copyAll 3 RX7 2 [(0, aR 25 0), (1, aR 26 0), (2, aI x2)] [] V) (h : wpX7_copyAll_25_26_0 (Cl UM d) I2   V P) : Cl UM (d + 1) mX7_copyAll [aR 25 0, aR 26 0] V P :=
  cl_of [(0, aR 25 0), (1, aR 26 0)] (by decide) (fun _ => Nat.le_of_ble_eq_true rfl) (fun _ => rfl) (okX7_copyAll_25_26_0    V hk2 h)
theorem dX7_told0_0 : decode cX7_told0 0 = .ok (.iload_n 0, 1) := by decide +kernel
theorem dX7_told0_1 : decode cX7_told0 1 = .ok (.ifCond .ge 8, 3) := by decide +kernel
theorem dX7_told0_4 : decode cX7_told0 4 = .ok (.ldc 75, 2) := by decide +kernel
theorem dX7_told0_6 : decode cX7_told0 6 = .ok (.goto 4, 3) := by decide +kernel
theorem dX7_told0_9 : decode cX7_told0 9 = .ok (.iload_n 0, 1) := by decide +kernel
theorem dX7_told0_10 : decode cX7_told0 10 = .ok (.ireturn, 1) := by decide +kernel
def wpX7_told0_0 (C : CT)   (x0 : Int32) (V : Mem) (Q : Option AV → Mem → Prop) : Prop :=
  ((0 ≤ x0 → Q (some (aI x0)) V) ∧ (¬ 0 ≤ x0 → Q (some (aI (-1000000005))) V))
set_option maxRecDepth 10000 in
theorem okX7_told0_0 {d : Nat} {P : Option AV → Mem → Prop}    (x0 : Int32)  (V : Mem)  (h : wpX7_told0_0 (Cl UM d)   x0 V P) : Gq (Kp (d + 1) mX7_told0 UM P) UM cX7_told0 1 RX7 0 [(0, aI x0)] [] V := by
  unfold wpX7_told0_0 at h
  refine go_iload_n (q := 0) dX7_told0_0 rfl rfl ?_
  refine go_if_ge (tgt := 9) dX7_told0_1 (by decide) (fun c_1 => ?_) (fun c_1 => ?_)
  · have h := h.1 c_1
    refine go_iload_n (q := 0) dX7_told0_9 rfl rfl ?_
    exact go_iret rfl dX7_told0_10 h
  · have h := h.2 c_1
    refine go_ldc dX7_told0_4 ct_X7_75 ?_
    refine go_goto (tgt := 10) dX7_told0_6 (by decide) ?_
    exact go_iret rfl dX7_told0_10 h
theorem clX7_told0 {d : Nat} {P : Option AV → Mem → Prop}    (x0 : Int32) (V : Mem)  (h : wpX7_told0_0 (Cl UM d)   x0 V P) : Cl UM (d + 1) mX7_told0 [aI x0] V P :=
  cl_of [(0, aI x0)] (by decide) (fun _ => Nat.le_of_ble_eq_true rfl) (fun _ => rfl) (okX7_told0_0   x0 V  h)
theorem dX7_isRoof_0 : decode cX7_isRoof 0 = .ok (.iload_n 1, 1) := by decide +kernel
theorem dX7_isRoof_1 : decode cX7_isRoof 1 = .ok (.iconst 0, 1) := by decide +kernel
theorem dX7_isRoof_2 : decode cX7_isRoof 2 = .ok (.aload_n 0, 1) := by decide +kernel
theorem dX7_isRoof_3 : decode cX7_isRoof 3 = .ok (.getfield 9, 3) := by decide +kernel
theorem dX7_isRoof_6 : decode cX7_isRoof 6 = .ok (.iconst 1, 1) := by decide +kernel
theorem dX7_isRoof_7 : decode cX7_isRoof 7 = .ok (.iaload, 1) := by decide +kernel
theorem dX7_isRoof_8 : decode cX7_isRoof 8 = .ok (.iconst 1, 1) := by decide +kernel
theorem dX7_isRoof_9 : decode cX7_isRoof 9 = .ok (.isub, 1) := by decide +kernel
theorem dX7_isRoof_10 : decode cX7_isRoof 10 = .ok (.invokestatic 76, 3) := by decide +kernel
theorem dX7_isRoof_13 : decode cX7_isRoof 13 = .ok (.ireturn, 1) := by decide +kernel
def wpX7_isRoof_0 (C : CT)   (x1 : Int32) (V : Mem) (Q : Option AV → Mem → Prop) : Prop :=
  (cI C mX7_in [aI x1, aI 0, aI ((V 25 0 1) - 1)] V (fun x_2 V_1 => ((x_2 = 0 ∨ x_2 = 1) ∧ Q (some (aI x_2)) V_1)))
set_option maxRecDepth 10000 in
theorem okX7_isRoof_0 {d : Nat} {P : Option AV → Mem → Prop}    (x1 : Int32)  (V : Mem)  (h : wpX7_isRoof_0 (Cl UM d)   x1 V P) : Gq (Kp (d + 1) mX7_isRoof UM P) UM cX7_isRoof 2 RX7 0 [(0, aR 24 0), (1, aI x1)] [] V := by
  unfold wpX7_isRoof_0 at h
  refine go_iload_n (q := 1) dX7_isRoof_0 rfl rfl ?_
  refine go_iconst (v := 0) dX7_isRoof_1 (by decide) ?_
  refine go_aload_n (q := 0) dX7_isRoof_2 rfl rfl ?_
  refine go_getr fg_X7_9 dX7_isRoof_3 (mM (by decide) (by decide) rfl) ?_
  refine go_iconst (v := 1) dX7_isRoof_6 (by decide) ?_
  refine go_iald (r := 25) (n := 1479) (j := 1) rfl (by decide) dX7_isRoof_7 (mM (by decide) (by decide) rfl) (by decide) (by decide) ?_
  refine go_iconst (v := 1) dX7_isRoof_8 (by decide) ?_
  refine go_isub dX7_isRoof_9 ?_
  refine go_cSI (As := [aI x1, aI 0, aI ((V 25 0 1) - 1)]) (st := []) ms_X7_in dX7_isRoof_10 ml_X7_76 (hr_Kp (Nat.le_refl d)) rfl rfl (Nat.le_of_ble_eq_true rfl) h (fun x_2 V_1 h => ?_)
  exact go_bret rfl dX7_isRoof_13 h.1 h.2
theorem clX7_isRoof {d : Nat} {P : Option AV → Mem → Prop}    (x1 : Int32) (V : Mem)  (h : wpX7_isRoof_0 (Cl UM d)   x1 V P) : Cl UM (d + 1) mX7_isRoof [aR 24 0, aI x1] V P :=
  cl_of [(0, aR 24 0), (1, aI x1)] (by decide) (fun _ => Nat.le_of_ble_eq_true rfl) (fun _ => rfl) (okX7_isRoof_0   x1 V  h)
theorem dX7_of_0 : decode cX7_of 0 = .ok (.aload_n 0, 1) := by decide +kernel
theorem dX7_of_1 : decode cX7_of 1 = .ok (.getfield 9, 3) := by decide +kernel
theorem dX7_of_4 : decode cX7_of 4 = .ok (.bipush 59, 2) := by decide +kernel
theorem dX7_of_6 : decode cX7_of 6 = .ok (.bipush 6, 2) := by decide +kernel
theorem dX7_of_8 : decode cX7_of 8 = .ok (.iload_n 1, 1) := by decide +kernel
theorem dX7_of_9 : decode cX7_of 9 = .ok (.imul, 1) := by decide +kernel
theorem dX7_of_10 : decode cX7_of 10 = .ok (.iadd, 1) := by decide +kernel
theorem dX7_of_11 : decode cX7_of 11 = .ok (.iload_n 2, 1) := by decide +kernel
theorem dX7_of_12 : decode cX7_of 12 = .ok (.iadd, 1) := by decide +kernel
theorem dX7_of_13 : decode cX7_of 13 = .ok (.iaload, 1) := by decide +kernel
theorem dX7_of_14 : decode cX7_of 14 = .ok (.ireturn, 1) := by decide +kernel
def wpX7_of_0 (C : CT)   (x1 : Int32) (x2 : Int32) (V : Mem) (Q : Option AV → Mem → Prop) : Prop :=
  (∃ j_1 : Nat, ((59 + (6 * x1)) + x2) = nI j_1 ∧ j_1 < 1479 ∧ Q (some (aI (V 25 0 j_1))) V)
set_option maxRecDepth 10000 in
theorem okX7_of_0 {d : Nat} {P : Option AV → Mem → Prop}    (x1 : Int32) (x2 : Int32)  (V : Mem)  (h : wpX7_of_0 (Cl UM d)   x1 x2 V P) : Gq (Kp (d + 1) mX7_of UM P) UM cX7_of 3 RX7 0 [(0, aR 24 0), (1, aI x1), (2, aI x2)] [] V := by
  unfold wpX7_of_0 at h
  refine go_aload_n (q := 0) dX7_of_0 rfl rfl ?_
  refine go_getr fg_X7_9 dX7_of_1 (mM (by decide) (by decide) rfl) ?_
  refine go_bipush (v := 59) dX7_of_4 (by decide) ?_
  refine go_bipush (v := 6) dX7_of_6 (by decide) ?_
  refine go_iload_n (q := 1) dX7_of_8 rfl rfl ?_
  refine go_imul dX7_of_9 ?_
  refine go_iadd dX7_of_10 ?_
  refine go_iload_n (q := 2) dX7_of_11 rfl rfl ?_
  refine go_iadd dX7_of_12 ?_
  obtain ⟨j_1, e_j_1, l_j_1, h⟩ := h
  refine go_iald (r := 25) (n := 1479) (j := j_1) rfl (by decide) dX7_of_13 (mM (by decide) (by decide) rfl) e_j_1 l_j_1 ?_
  exact go_iret rfl dX7_of_14 h
theorem clX7_of {d : Nat} {P : Option AV → Mem → Prop}    (x1 : Int32) (x2 : Int32) (V : Mem)  (h : wpX7_of_0 (Cl UM d)   x1 x2 V P) : Cl UM (d + 1) mX7_of [aR 24 0, aI x1, aI x2] V P :=
  cl_of [(0, aR 24 0), (1, aI x1), (2, aI x2)] (by decide) (fun _ => Nat.le_of_ble_eq_true rfl) (fun _ => rfl) (okX7_of_0   x1 x2 V  h)
theorem dX7_put_0 : decode cX7_put 0 = .ok (.aload_n 0, 1) := by decide +kernel
theorem dX7_put_1 : decode cX7_put 1 = .ok (.getfield 9, 3) := by decide +kernel
theorem dX7_put_4 : decode cX7_put 4 = .ok (.bipush 59, 2) := by decide +kernel
theorem dX7_put_6 : decode cX7_put 6 = .ok (.bipush 6, 2) := by decide +kernel
theorem dX7_put_8 : decode cX7_put 8 = .ok (.iload_n 1, 1) := by decide +kernel
theorem dX7_put_9 : decode cX7_put 9 = .ok (.imul, 1) := by decide +kernel
theorem dX7_put_10 : decode cX7_put 10 = .ok (.iadd, 1) := by decide +kernel
theorem dX7_put_11 : decode cX7_put 11 = .ok (.iload_n 2, 1) := by decide +kernel
theorem dX7_put_12 : decode cX7_put 12 = .ok (.iadd, 1) := by decide +kernel
theorem dX7_put_13 : decode cX7_put 13 = .ok (.iload_n 3, 1) := by decide +kernel
theorem dX7_put_14 : decode cX7_put 14 = .ok (.iastore, 1) := by decide +kernel
theorem dX7_put_15 : decode cX7_put 15 = .ok (.return_, 1) := by decide +kernel
def wpX7_put_0 (C : CT)   (x1 : Int32) (x2 : Int32) (x3 : Int32) (V : Mem) (Q : Option AV → Mem → Prop) : Prop :=
  (∃ j_1 : Nat, ((59 + (6 * x1)) + x2) = nI j_1 ∧ j_1 < 1479 ∧ (∀ V_2 : Mem, V_2 = mu V 25 0 j_1 x3 → Q none V_2))
set_option maxRecDepth 10000 in
theorem okX7_put_0 {d : Nat} {P : Option AV → Mem → Prop}    (x1 : Int32) (x2 : Int32) (x3 : Int32)  (V : Mem)  (h : wpX7_put_0 (Cl UM d)   x1 x2 x3 V P) : Gq (Kp (d + 1) mX7_put UM P) UM cX7_put 4 RX7 0 [(0, aR 24 0), (1, aI x1), (2, aI x2), (3, aI x3)] [] V := by
  unfold wpX7_put_0 at h
  refine go_aload_n (q := 0) dX7_put_0 rfl rfl ?_
  refine go_getr fg_X7_9 dX7_put_1 (mM (by decide) (by decide) rfl) ?_
  refine go_bipush (v := 59) dX7_put_4 (by decide) ?_
  refine go_bipush (v := 6) dX7_put_6 (by decide) ?_
  refine go_iload_n (q := 1) dX7_put_8 rfl rfl ?_
  refine go_imul dX7_put_9 ?_
  refine go_iadd dX7_put_10 ?_
  refine go_iload_n (q := 2) dX7_put_11 rfl rfl ?_
  refine go_iadd dX7_put_12 ?_
  refine go_iload_n (q := 3) dX7_put_13 rfl rfl ?_
  obtain ⟨j_1, e_j_1, l_j_1, h⟩ := h
  refine go_iast (r := 25) (n := 1479) (j := j_1) rfl (by decide) dX7_put_14 (mM (by decide) (by decide) rfl) e_j_1 l_j_1 ?_
  refine nmV (fun V_2 e_V_2 => ?_)
  have h := h V_2 e_V_2
  exact go_vret rfl dX7_put_15 h
theorem clX7_put {d : Nat} {P : Option AV → Mem → Prop}    (x1 : Int32) (x2 : Int32) (x3 : Int32) (V : Mem)  (h : wpX7_put_0 (Cl UM d)   x1 x2 x3 V P) : Cl UM (d + 1) mX7_put [aR 24 0, aI x1, aI x2, aI x3] V P :=
  cl_of [(0, aR 24 0), (1, aI x1), (2, aI x2), (3, aI x3)] (by decide) (fun _ => Nat.le_of_ble_eq_true rfl) (fun _ => rfl) (okX7_put_0   x1 x2 x3 V  h)
theorem dX7_becomes_0 : decode cX7_becomes 0 = .ok (.aload_n 0, 1) := by decide +kernel
theorem dX7_becomes_1 : decode cX7_becomes 1 = .ok (.getfield 9, 3) := by decide +kernel
theorem dX7_becomes_4 : decode cX7_becomes 4 = .ok (.iload_n 1, 1) := by decide +kernel
theorem dX7_becomes_5 : decode cX7_becomes 5 = .ok (.iaload, 1) := by decide +kernel
theorem dX7_becomes_6 : decode cX7_becomes 6 = .ok (.istore_n 3, 1) := by decide +kernel
theorem dX7_becomes_7 : decode cX7_becomes 7 = .ok (.aload_n 0, 1) := by decide +kernel
theorem dX7_becomes_8 : decode cX7_becomes 8 = .ok (.getfield 9, 3) := by decide +kernel
theorem dX7_becomes_11 : decode cX7_becomes 11 = .ok (.iload_n 1, 1) := by decide +kernel
theorem dX7_becomes_12 : decode cX7_becomes 12 = .ok (.iload_n 2, 1) := by decide +kernel
theorem dX7_becomes_13 : decode cX7_becomes 13 = .ok (.iastore, 1) := by decide +kernel
theorem dX7_becomes_14 : decode cX7_becomes 14 = .ok (.iload_n 3, 1) := by decide +kernel
theorem dX7_becomes_15 : decode cX7_becomes 15 = .ok (.ireturn, 1) := by decide +kernel
def wpX7_becomes_0 (C : CT)   (x1 : Int32) (x2 : Int32) (V : Mem) (Q : Option AV → Mem → Prop) : Prop :=
  (∃ j_1 : Nat, x1 = nI j_1 ∧ j_1 < 1479 ∧ (∀ z_2 : Int32, z_2 = (V 25 0 j_1) → (∀ V_3 : Mem, V_3 = mu V 25 0 j_1 x2 → Q (some (aI z_2)) V_3)))
set_option maxRecDepth 10000 in
theorem okX7_becomes_0 {d : Nat} {P : Option AV → Mem → Prop}    (x1 : Int32) (x2 : Int32)  (V : Mem)  (h : wpX7_becomes_0 (Cl UM d)   x1 x2 V P) : Gq (Kp (d + 1) mX7_becomes UM P) UM cX7_becomes 4 RX7 0 [(0, aR 24 0), (1, aI x1), (2, aI x2)] [] V := by
  unfold wpX7_becomes_0 at h
  refine go_aload_n (q := 0) dX7_becomes_0 rfl rfl ?_
  refine go_getr fg_X7_9 dX7_becomes_1 (mM (by decide) (by decide) rfl) ?_
  refine go_iload_n (q := 1) dX7_becomes_4 rfl rfl ?_
  obtain ⟨j_1, e_j_1, l_j_1, h⟩ := h
  refine go_iald (r := 25) (n := 1479) (j := j_1) rfl (by decide) dX7_becomes_5 (mM (by decide) (by decide) rfl) e_j_1 l_j_1 ?_
  refine nmI (fun z_2 e_z_2 => ?_)
  have h := h z_2 e_z_2
  refine go_istore_n (al1 := [(3, aI z_2), (0, aR 24 0), (1, aI x1), (2, aI x2)]) dX7_becomes_6 rfl (by decide) rfl ?_
  refine go_aload_n (q := 1) dX7_becomes_7 rfl rfl ?_
  refine go_getr fg_X7_9 dX7_becomes_8 (mM (by decide) (by decide) rfl) ?_
  refine go_iload_n (q := 2) dX7_becomes_11 rfl rfl ?_
  refine go_iload_n (q := 3) dX7_becomes_12 rfl rfl ?_
  refine go_iast (r := 25) (n := 1479) (j := j_1) rfl (by decide) dX7_becomes_13 (mM (by decide) (by decide) rfl) e_j_1 (by omega) ?_
  refine nmV (fun V_3 e_V_3 => ?_)
  have h := h V_3 e_V_3
  refine go_iload_n (q := 0) dX7_becomes_14 rfl rfl ?_
  exact go_iret rfl dX7_becomes_15 h
theorem clX7_becomes {d : Nat} {P : Option AV → Mem → Prop}    (x1 : Int32) (x2 : Int32) (V : Mem)  (h : wpX7_becomes_0 (Cl UM d)   x1 x2 V P) : Cl UM (d + 1) mX7_becomes [aR 24 0, aI x1, aI x2] V P :=
  cl_of [(0, aR 24 0), (1, aI x1), (2, aI x2)] (by decide) (fun _ => Nat.le_of_ble_eq_true rfl) (fun _ => rfl) (okX7_becomes_0   x1 x2 V  h)
theorem dX7_hourOfDay_0 : decode cX7_hourOfDay 0 = .ok (.aload_n 0, 1) := by decide +kernel
theorem dX7_hourOfDay_1 : decode cX7_hourOfDay 1 = .ok (.getfield 9, 3) := by decide +kernel
theorem dX7_hourOfDay_4 : decode cX7_hourOfDay 4 = .ok (.iconst 2, 1) := by decide +kernel
theorem dX7_hourOfDay_5 : decode cX7_hourOfDay 5 = .ok (.iaload, 1) := by decide +kernel
theorem dX7_hourOfDay_6 : decode cX7_hourOfDay 6 = .ok (.bipush 24, 2) := by decide +kernel
theorem dX7_hourOfDay_8 : decode cX7_hourOfDay 8 = .ok (.irem, 1) := by decide +kernel
theorem dX7_hourOfDay_9 : decode cX7_hourOfDay 9 = .ok (.ireturn, 1) := by decide +kernel
def wpX7_hourOfDay_0 (C : CT)    (V : Mem) (Q : Option AV → Mem → Prop) : Prop :=
  (∀ z_1 : Int32, z_1 = ((V 25 0 2) - (V 25 0 2) / 24 * 24) → Q (some (aI z_1)) V)
set_option maxRecDepth 10000 in
theorem okX7_hourOfDay_0 {d : Nat} {P : Option AV → Mem → Prop}      (V : Mem)  (h : wpX7_hourOfDay_0 (Cl UM d)    V P) : Gq (Kp (d + 1) mX7_hourOfDay UM P) UM cX7_hourOfDay 1 RX7 0 [(0, aR 24 0)] [] V := by
  unfold wpX7_hourOfDay_0 at h
  refine go_aload_n (q := 0) dX7_hourOfDay_0 rfl rfl ?_
  refine go_getr fg_X7_9 dX7_hourOfDay_1 (mM (by decide) (by decide) rfl) ?_
  refine go_iconst (v := 2) dX7_hourOfDay_4 (by decide) ?_
  refine go_iald (r := 25) (n := 1479) (j := 2) rfl (by decide) dX7_hourOfDay_5 (mM (by decide) (by decide) rfl) (by decide) (by decide) ?_
  refine go_bipush (v := 24) dX7_hourOfDay_6 (by decide) ?_
  refine go_irem dX7_hourOfDay_8 (by decide) ?_
  refine nmI (fun z_1 e_z_1 => ?_)
  have h := h z_1 e_z_1
  exact go_iret rfl dX7_hourOfDay_9 h
theorem clX7_hourOfDay {d : Nat} {P : Option AV → Mem → Prop}     (V : Mem)  (h : wpX7_hourOfDay_0 (Cl UM d)    V P) : Cl UM (d + 1) mX7_hourOfDay [aR 24 0] V P :=
  cl_of [(0, aR 24 0)] (by decide) (fun _ => Nat.le_of_ble_eq_true rfl) (fun _ => rfl) (okX7_hourOfDay_0    V  h)
theorem dX7_comes_0 : decode cX7_comes 0 = .ok (.aload_n 0, 1) := by decide +kernel
theorem dX7_comes_1 : decode cX7_comes 1 = .ok (.getfield 9, 3) := by decide +kernel
theorem dX7_comes_4 : decode cX7_comes 4 = .ok (.iconst 1, 1) := by decide +kernel
theorem dX7_comes_5 : decode cX7_comes 5 = .ok (.iaload, 1) := by decide +kernel
theorem dX7_comes_6 : decode cX7_comes 6 = .ok (.istore_n 3, 1) := by decide +kernel
theorem dX7_comes_7 : decode cX7_comes 7 = .ok (.iconst 0, 1) := by decide +kernel
theorem dX7_comes_8 : decode cX7_comes 8 = .ok (.istore 4, 2) := by decide +kernel
theorem dX7_comes_10 : decode cX7_comes 10 = .ok (.iload 4, 2) := by decide +kernel
theorem dX7_comes_12 : decode cX7_comes 12 = .ok (.bipush 6, 2) := by decide +kernel
theorem dX7_comes_14 : decode cX7_comes 14 = .ok (.if_icmp .ge 17, 3) := by decide +kernel
theorem dX7_comes_17 : decode cX7_comes 17 = .ok (.aload_n 0, 1) := by decide +kernel
theorem dX7_comes_18 : decode cX7_comes 18 = .ok (.iload_n 3, 1) := by decide +kernel
theorem dX7_comes_19 : decode cX7_comes 19 = .ok (.iload 4, 2) := by decide +kernel
theorem dX7_comes_21 : decode cX7_comes 21 = .ok (.iconst 0, 1) := by decide +kernel
theorem dX7_comes_22 : decode cX7_comes 22 = .ok (.invokevirtual 80, 3) := by decide +kernel
theorem dX7_comes_25 : decode cX7_comes 25 = .ok (.iinc 4 1, 3) := by decide +kernel
theorem dX7_comes_28 : decode cX7_comes 28 = .ok (.goto (-18), 3) := by decide +kernel
theorem dX7_comes_31 : decode cX7_comes 31 = .ok (.aload_n 0, 1) := by decide +kernel
theorem dX7_comes_32 : decode cX7_comes 32 = .ok (.iload_n 3, 1) := by decide +kernel
theorem dX7_comes_33 : decode cX7_comes 33 = .ok (.iconst 0, 1) := by decide +kernel
theorem dX7_comes_34 : decode cX7_comes 34 = .ok (.iload_n 1, 1) := by decide +kernel
theorem dX7_comes_35 : decode cX7_comes 35 = .ok (.invokevirtual 80, 3) := by decide +kernel
theorem dX7_comes_38 : decode cX7_comes 38 = .ok (.aload_n 0, 1) := by decide +kernel
theorem dX7_comes_39 : decode cX7_comes 39 = .ok (.iload_n 3, 1) := by decide +kernel
theorem dX7_comes_40 : decode cX7_comes 40 = .ok (.iconst 1, 1) := by decide +kernel
theorem dX7_comes_41 : decode cX7_comes 41 = .ok (.iload_n 2, 1) := by decide +kernel
theorem dX7_comes_42 : decode cX7_comes 42 = .ok (.invokevirtual 80, 3) := by decide +kernel
theorem dX7_comes_45 : decode cX7_comes 45 = .ok (.aload_n 0, 1) := by decide +kernel
theorem dX7_comes_46 : decode cX7_comes 46 = .ok (.iload_n 3, 1) := by decide +kernel
theorem dX7_comes_47 : decode cX7_comes 47 = .ok (.iconst 3, 1) := by decide +kernel
theorem dX7_comes_48 : decode cX7_comes 48 = .ok (.bipush 100, 2) := by decide +kernel
theorem dX7_comes_50 : decode cX7_comes 50 = .ok (.invokevirtual 80, 3) := by decide +kernel
theorem dX7_comes_53 : decode cX7_comes 53 = .ok (.aload_n 0, 1) := by decide +kernel
theorem dX7_comes_54 : decode cX7_comes 54 = .ok (.getfield 9, 3) := by decide +kernel
theorem dX7_comes_57 : decode cX7_comes 57 = .ok (.iconst 1, 1) := by decide +kernel
theorem dX7_comes_58 : decode cX7_comes 58 = .ok (.dup2, 1) := by decide +kernel
theorem dX7_comes_59 : decode cX7_comes 59 = .ok (.iaload, 1) := by decide +kernel
theorem dX7_comes_60 : decode cX7_comes 60 = .ok (.iconst 1, 1) := by decide +kernel
theorem dX7_comes_61 : decode cX7_comes 61 = .ok (.iadd, 1) := by decide +kernel
theorem dX7_comes_62 : decode cX7_comes 62 = .ok (.iastore, 1) := by decide +kernel
theorem dX7_comes_63 : decode cX7_comes 63 = .ok (.iload_n 3, 1) := by decide +kernel
theorem dX7_comes_64 : decode cX7_comes 64 = .ok (.ireturn, 1) := by decide +kernel
def wpX7_comes_10 (C : CT) (I10 : Int32 → Int32 → Int32 → Int32 → Mem → Prop)  (x1 : Int32) (x2 : Int32) (x3 : Int32) (x4 : Int32) (V : Mem) (Q : Option AV → Mem → Prop) : Prop :=
  ((6 ≤ x4 → (cV C mX7_put [aR 24 0, aI x3, aI 0, aI x1] V (fun V_1 => (cV C mX7_put [aR 24 0, aI x3, aI 1, aI x2] V_1 (fun V_2 => (cV C mX7_put [aR 24 0, aI x3, aI 3, aI 100] V_2 (fun V_3 => (∀ V_4 : Mem, V_4 = mu V_3 25 0 1 ((V_3 25 0 1) + 1) → Q (some (aI x3)) V_4)))))))) ∧ (¬ 6 ≤ x4 → (cV C mX7_put [aR 24 0, aI x3, aI x4, aI 0] V (fun V_5 => I10 x1 x2 x3 (x4 + 1) V_5))))
set_option maxRecDepth 10000 in
theorem okX7_comes_10 {d : Nat} {P : Option AV → Mem → Prop} {I10 : Int32 → Int32 → Int32 → Int32 → Mem → Prop}   (x1 : Int32) (x2 : Int32) (x3 : Int32) (x4 : Int32)  (V : Mem) (hk10 : ∀ (x1 : Int32) (x2 : Int32) (x3 : Int32) (x4 : Int32), ∀ (V : Mem), I10 x1 x2 x3 x4 V → Gq (Kp (d + 1) mX7_comes UM P) UM cX7_comes 5 RX7 10 [(0, aR 24 0), (1, aI x1), (2, aI x2), (3, aI x3), (4, aI x4)] [] V) (h : wpX7_comes_10 (Cl UM d) I10  x1 x2 x3 x4 V P) : Gq (Kp (d + 1) mX7_comes UM P) UM cX7_comes 5 RX7 10 [(0, aR 24 0), (1, aI x1), (2, aI x2), (3, aI x3), (4, aI x4)] [] V := by
  unfold wpX7_comes_10 at h
  refine go_iload (q := 4) dX7_comes_10 rfl ?_
  refine go_bipush (v := 6) dX7_comes_12 (by decide) ?_
  refine go_icmp_ge (tgt := 31) dX7_comes_14 (by decide) (fun c_6 => ?_) (fun c_6 => ?_)
  · have h := h.1 c_6
    refine go_aload_n (q := 0) dX7_comes_31 rfl rfl ?_
    refine go_iload_n (q := 3) dX7_comes_32 rfl rfl ?_
    refine go_iconst (v := 0) dX7_comes_33 (by decide) ?_
    refine go_iload_n (q := 1) dX7_comes_34 rfl rfl ?_
    refine go_cVV (As := [aI x3, aI 0, aI x1]) (st := []) (r := 24) (i := 0) mv_X7_put dX7_comes_35 ml_X7_80 (hr_Kp (Nat.le_refl d)) rfl rfl (mM (by decide) (by decide) rfl) rfl rfl (Nat.le_of_ble_eq_true rfl) h (fun V_1 h => ?_)
    refine go_aload_n (q := 0) dX7_comes_38 rfl rfl ?_
    refine go_iload_n (q := 3) dX7_comes_39 rfl rfl ?_
    refine go_iconst (v := 1) dX7_comes_40 (by decide) ?_
    refine go_iload_n (q := 2) dX7_comes_41 rfl rfl ?_
    refine go_cVV (As := [aI x3, aI 1, aI x2]) (st := []) (r := 24) (i := 0) mv_X7_put dX7_comes_42 ml_X7_80 (hr_Kp (Nat.le_refl d)) rfl rfl (mM (by decide) (by decide) rfl) rfl rfl (Nat.le_of_ble_eq_true rfl) h (fun V_2 h => ?_)
    refine go_aload_n (q := 0) dX7_comes_45 rfl rfl ?_
    refine go_iload_n (q := 3) dX7_comes_46 rfl rfl ?_
    refine go_iconst (v := 3) dX7_comes_47 (by decide) ?_
    refine go_bipush (v := 100) dX7_comes_48 (by decide) ?_
    refine go_cVV (As := [aI x3, aI 3, aI 100]) (st := []) (r := 24) (i := 0) mv_X7_put dX7_comes_50 ml_X7_80 (hr_Kp (Nat.le_refl d)) rfl rfl (mM (by decide) (by decide) rfl) rfl rfl (Nat.le_of_ble_eq_true rfl) h (fun V_3 h => ?_)
    refine go_aload_n (q := 0) dX7_comes_53 rfl rfl ?_
    refine go_getr fg_X7_9 dX7_comes_54 (mM (by decide) (by decide) rfl) ?_
    refine go_iconst (v := 1) dX7_comes_57 (by decide) ?_
    refine go_dup2 dX7_comes_58 rfl rfl ?_
    refine go_iald (r := 25) (n := 1479) (j := 1) rfl (by decide) dX7_comes_59 (mM (by decide) (by decide) rfl) (by decide) (by decide) ?_
    refine go_iconst (v := 1) dX7_comes_60 (by decide) ?_
    refine go_iadd dX7_comes_61 ?_
    refine go_iast (r := 25) (n := 1479) (j := 1) rfl (by decide) dX7_comes_62 (mM (by decide) (by decide) rfl) (by decide) (by decide) ?_
    refine nmV (fun V_4 e_V_4 => ?_)
    have h := h V_4 e_V_4
    refine go_iload_n (q := 3) dX7_comes_63 rfl rfl ?_
    exact go_iret rfl dX7_comes_64 h
  · have h := h.2 c_6
    refine go_aload_n (q := 0) dX7_comes_17 rfl rfl ?_
    refine go_iload_n (q := 3) dX7_comes_18 rfl rfl ?_
    refine go_iload (q := 4) dX7_comes_19 rfl ?_
    refine go_iconst (v := 0) dX7_comes_21 (by decide) ?_
    refine go_cVV (As := [aI x3, aI x4, aI 0]) (st := []) (r := 24) (i := 0) mv_X7_put dX7_comes_22 ml_X7_80 (hr_Kp (Nat.le_refl d)) rfl rfl (mM (by decide) (by decide) rfl) rfl rfl (Nat.le_of_ble_eq_true rfl) h (fun V_5 h => ?_)
    refine go_iinc (q := 4) (y := 1) (al1 := [(4, aI (x4 + 1)), (0, aR 24 0), (1, aI x1), (2, aI x2), (3, aI x3)]) dX7_comes_25 rfl (by decide) (by decide) rfl ?_
    refine go_goto (tgt := 10) dX7_comes_28 (by decide) ?_
    refine go_sub (al1 := [(0, aR 24 0), (1, aI x1), (2, aI x2), (3, aI x3), (4, aI (x4 + 1))]) [1, 2, 3, 4, 0] rfl ?_
    exact hk10 x1 x2 x3 (x4 + 1)  V_5 h
def wpX7_comes_0 (C : CT) (I10 : Int32 → Int32 → Int32 → Int32 → Mem → Prop)  (x1 : Int32) (x2 : Int32) (V : Mem) (Q : Option AV → Mem → Prop) : Prop :=
  (∀ z_1 : Int32, z_1 = (V 25 0 1) → I10 x1 x2 z_1 0 V)
set_option maxRecDepth 10000 in
theorem okX7_comes_0 {d : Nat} {P : Option AV → Mem → Prop} {I10 : Int32 → Int32 → Int32 → Int32 → Mem → Prop}   (x1 : Int32) (x2 : Int32)  (V : Mem) (hk10 : ∀ (x1 : Int32) (x2 : Int32) (x3 : Int32) (x4 : Int32), ∀ (V : Mem), I10 x1 x2 x3 x4 V → Gq (Kp (d + 1) mX7_comes UM P) UM cX7_comes 5 RX7 10 [(0, aR 24 0), (1, aI x1), (2, aI x2), (3, aI x3), (4, aI x4)] [] V) (h : wpX7_comes_0 (Cl UM d) I10  x1 x2 V P) : Gq (Kp (d + 1) mX7_comes UM P) UM cX7_comes 5 RX7 0 [(0, aR 24 0), (1, aI x1), (2, aI x2)] [] V := by
  unfold wpX7_comes_0 at h
  refine go_aload_n (q := 0) dX7_comes_0 rfl rfl ?_
  refine go_getr fg_X7_9 dX7_comes_1 (mM (by decide) (by decide) rfl) ?_
  refine go_iconst (v := 1) dX7_comes_4 (by decide) ?_
  refine go_iald (r := 25) (n := 1479) (j := 1) rfl (by decide) dX7_comes_5 (mM (by decide) (by decide) rfl) (by decide) (by decide) ?_
  refine nmI (fun z_1 e_z_1 => ?_)
  have h := h z_1 e_z_1
  refine go_istore_n (al1 := [(3, aI z_1), (0, aR 24 0), (1, aI x1), (2, aI x2)]) dX7_comes_6 rfl (by decide) rfl ?_
  refine go_iconst (v := 0) dX7_comes_7 (by decide) ?_
  refine go_istore (al1 := [(4, aI 0), (3, aI z_1), (0, aR 24 0), (1, aI x1), (2, aI x2)]) dX7_comes_8 (by decide) rfl ?_
  refine go_sub (al1 := [(0, aR 24 0), (1, aI x1), (2, aI x2), (3, aI z_1), (4, aI 0)]) [2, 3, 4, 1, 0] rfl ?_
  exact hk10 x1 x2 z_1 0  V h
theorem clX7_comes {d : Nat} {P : Option AV → Mem → Prop} {I10 : Int32 → Int32 → Int32 → Int32 → Mem → Prop}   (x1 : Int32) (x2 : Int32) (V : Mem) (hk10 : ∀ (x1 : Int32) (x2 : Int32) (x3 : Int32) (x4 : Int32), ∀ (V : Mem), I10 x1 x2 x3 x4 V → Gq (Kp (d + 1) mX7_comes UM P) UM cX7_comes 5 RX7 10 [(0, aR 24 0), (1, aI x1), (2, aI x2), (3, aI x3), (4, aI x4)] [] V) (h : wpX7_comes_0 (Cl UM d) I10  x1 x2 V P) : Cl UM (d + 1) mX7_comes [aR 24 0, aI x1, aI x2] V P :=
  cl_of [(0, aR 24 0), (1, aI x1), (2, aI x2)] (by decide) (fun _ => Nat.le_of_ble_eq_true rfl) (fun _ => rfl) (okX7_comes_0   x1 x2 V hk10 h)
theorem dX7_roof_0 : decode cX7_roof 0 = .ok (.iload_n 1, 1) := by decide +kernel
theorem dX7_roof_1 : decode cX7_roof 1 = .ok (.iconst 0, 1) := by decide +kernel
theorem dX7_roof_2 : decode cX7_roof 2 = .ok (.iconst 5, 1) := by decide +kernel
theorem dX7_roof_3 : decode cX7_roof 3 = .ok (.invokestatic 76, 3) := by decide +kernel
theorem dX7_roof_6 : decode cX7_roof 6 = .ok (.ifCond .eq 13, 3) := by decide +kernel
theorem dX7_roof_9 : decode cX7_roof 9 = .ok (.iload_n 2, 1) := by decide +kernel
theorem dX7_roof_10 : decode cX7_roof 10 = .ok (.iconst 1, 1) := by decide +kernel
theorem dX7_roof_11 : decode cX7_roof 11 = .ok (.bipush 9, 2) := by decide +kernel
theorem dX7_roof_13 : decode cX7_roof 13 = .ok (.invokestatic 76, 3) := by decide +kernel
theorem dX7_roof_16 : decode cX7_roof 16 = .ok (.ifCond .ne 6, 3) := by decide +kernel
theorem dX7_roof_19 : decode cX7_roof 19 = .ok (.ldc 84, 2) := by decide +kernel
theorem dX7_roof_21 : decode cX7_roof 21 = .ok (.ireturn, 1) := by decide +kernel
theorem dX7_roof_22 : decode cX7_roof 22 = .ok (.aload_n 0, 1) := by decide +kernel
theorem dX7_roof_23 : decode cX7_roof 23 = .ok (.getfield 9, 3) := by decide +kernel
theorem dX7_roof_26 : decode cX7_roof 26 = .ok (.iconst 1, 1) := by decide +kernel
theorem dX7_roof_27 : decode cX7_roof 27 = .ok (.iaload, 1) := by decide +kernel
theorem dX7_roof_28 : decode cX7_roof 28 = .ok (.bipush 8, 2) := by decide +kernel
theorem dX7_roof_30 : decode cX7_roof 30 = .ok (.if_icmp .ne 8, 3) := by decide +kernel
theorem dX7_roof_33 : decode cX7_roof 33 = .ok (.ldc 85, 2) := by decide +kernel
theorem dX7_roof_35 : decode cX7_roof 35 = .ok (.goto 9, 3) := by decide +kernel
theorem dX7_roof_38 : decode cX7_roof 38 = .ok (.aload_n 0, 1) := by decide +kernel
theorem dX7_roof_39 : decode cX7_roof 39 = .ok (.iload_n 1, 1) := by decide +kernel
theorem dX7_roof_40 : decode cX7_roof 40 = .ok (.iload_n 2, 1) := by decide +kernel
theorem dX7_roof_41 : decode cX7_roof 41 = .ok (.invokevirtual 86, 3) := by decide +kernel
theorem dX7_roof_44 : decode cX7_roof 44 = .ok (.ireturn, 1) := by decide +kernel
def wpX7_roof_0 (C : CT)   (x1 : Int32) (x2 : Int32) (V : Mem) (Q : Option AV → Mem → Prop) : Prop :=
  (cI C mX7_in [aI x1, aI 0, aI 5] V (fun x_2 V_1 => ((x_2 = 0 → Q (some (aI (-1000000001))) V_1) ∧ (¬ x_2 = 0 → (cI C mX7_in [aI x2, aI 1, aI 9] V_1 (fun x_4 V_3 => ((¬ x_4 = 0 → ((¬ (V_3 25 0 1) = 8 → (cI C mX7_comes [aR 24 0, aI x1, aI x2] V_3 (fun x_6 V_5 => Q (some (aI x_6)) V_5))) ∧ ((V_3 25 0 1) = 8 → Q (some (aI (-1000000003))) V_3))) ∧ (x_4 = 0 → Q (some (aI (-1000000001))) V_3))))))))
set_option maxRecDepth 10000 in
theorem okX7_roof_0 {d : Nat} {P : Option AV → Mem → Prop}    (x1 : Int32) (x2 : Int32)  (V : Mem)  (h : wpX7_roof_0 (Cl UM d)   x1 x2 V P) : Gq (Kp (d + 1) mX7_roof UM P) UM cX7_roof 3 RX7 0 [(0, aR 24 0), (1, aI x1), (2, aI x2)] [] V := by
  unfold wpX7_roof_0 at h
  refine go_iload_n (q := 1) dX7_roof_0 rfl rfl ?_
  refine go_iconst (v := 0) dX7_roof_1 (by decide) ?_
  refine go_iconst (v := 5) dX7_roof_2 (by decide) ?_
  refine go_cSI (As := [aI x1, aI 0, aI 5]) (st := []) ms_X7_in dX7_roof_3 ml_X7_76 (hr_Kp (Nat.le_refl d)) rfl rfl (Nat.le_of_ble_eq_true rfl) h (fun x_2 V_1 h => ?_)
  refine go_if_eq (tgt := 19) dX7_roof_6 (by decide) (fun c_9 => ?_) (fun c_9 => ?_)
  · have h := h.1 c_9
    refine go_ldc dX7_roof_19 ct_X7_84 ?_
    exact go_iret rfl dX7_roof_21 h
  · have h := h.2 c_9
    refine go_iload_n (q := 2) dX7_roof_9 rfl rfl ?_
    refine go_iconst (v := 1) dX7_roof_10 (by decide) ?_
    refine go_bipush (v := 9) dX7_roof_11 (by decide) ?_
    refine go_cSI (As := [aI x2, aI 1, aI 9]) (st := []) ms_X7_in dX7_roof_13 ml_X7_76 (hr_Kp (Nat.le_refl d)) rfl rfl (Nat.le_of_ble_eq_true rfl) h (fun x_4 V_3 h => ?_)
    refine go_if_ne (tgt := 22) dX7_roof_16 (by decide) (fun c_8 => ?_) (fun c_8 => ?_)
    · have h := h.1 c_8
      refine go_aload_n (q := 0) dX7_roof_22 rfl rfl ?_
      refine go_getr fg_X7_9 dX7_roof_23 (mM (by decide) (by decide) rfl) ?_
      refine go_iconst (v := 1) dX7_roof_26 (by decide) ?_
      refine go_iald (r := 25) (n := 1479) (j := 1) rfl (by decide) dX7_roof_27 (mM (by decide) (by decide) rfl) (by decide) (by decide) ?_
      refine go_bipush (v := 8) dX7_roof_28 (by decide) ?_
      refine go_icmp_ne (tgt := 38) dX7_roof_30 (by decide) (fun c_7 => ?_) (fun c_7 => ?_)
      · have h := h.1 c_7
        refine go_aload_n (q := 0) dX7_roof_38 rfl rfl ?_
        refine go_iload_n (q := 1) dX7_roof_39 rfl rfl ?_
        refine go_iload_n (q := 2) dX7_roof_40 rfl rfl ?_
        refine go_cVI (As := [aI x1, aI x2]) (st := []) (r := 24) (i := 0) mv_X7_comes dX7_roof_41 ml_X7_86 (hr_Kp (Nat.le_refl d)) rfl rfl (mM (by decide) (by decide) rfl) rfl rfl (Nat.le_of_ble_eq_true rfl) h (fun x_6 V_5 h => ?_)
        exact go_iret rfl dX7_roof_44 h
      · have h := h.2 c_7
        refine go_ldc dX7_roof_33 ct_X7_85 ?_
        refine go_goto (tgt := 44) dX7_roof_35 (by decide) ?_
        exact go_iret rfl dX7_roof_44 h
    · have h := h.2 c_8
      refine go_ldc dX7_roof_19 ct_X7_84 ?_
      exact go_iret rfl dX7_roof_21 h
theorem clX7_roof {d : Nat} {P : Option AV → Mem → Prop}    (x1 : Int32) (x2 : Int32) (V : Mem)  (h : wpX7_roof_0 (Cl UM d)   x1 x2 V P) : Cl UM (d + 1) mX7_roof [aR 24 0, aI x1, aI x2] V P :=
  cl_of [(0, aR 24 0), (1, aI x1), (2, aI x2)] (by decide) (fun _ => Nat.le_of_ble_eq_true rfl) (fun _ => rfl) (okX7_roof_0   x1 x2 V  h)
theorem dX7_warmthOf_0 : decode cX7_warmthOf 0 = .ok (.aload_n 0, 1) := by decide +kernel
theorem dX7_warmthOf_1 : decode cX7_warmthOf 1 = .ok (.getfield 9, 3) := by decide +kernel
theorem dX7_warmthOf_4 : decode cX7_warmthOf 4 = .ok (.bipush 11, 2) := by decide +kernel
theorem dX7_warmthOf_6 : decode cX7_warmthOf 6 = .ok (.aload_n 0, 1) := by decide +kernel
theorem dX7_warmthOf_7 : decode cX7_warmthOf 7 = .ok (.invokevirtual 90, 3) := by decide +kernel
theorem dX7_warmthOf_10 : decode cX7_warmthOf 10 = .ok (.iadd, 1) := by decide +kernel
theorem dX7_warmthOf_11 : decode cX7_warmthOf 11 = .ok (.iaload, 1) := by decide +kernel
theorem dX7_warmthOf_12 : decode cX7_warmthOf 12 = .ok (.aload_n 0, 1) := by decide +kernel
theorem dX7_warmthOf_13 : decode cX7_warmthOf 13 = .ok (.iload_n 1, 1) := by decide +kernel
theorem dX7_warmthOf_14 : decode cX7_warmthOf 14 = .ok (.iconst 2, 1) := by decide +kernel
theorem dX7_warmthOf_15 : decode cX7_warmthOf 15 = .ok (.invokevirtual 94, 3) := by decide +kernel
theorem dX7_warmthOf_18 : decode cX7_warmthOf 18 = .ok (.iadd, 1) := by decide +kernel
theorem dX7_warmthOf_19 : decode cX7_warmthOf 19 = .ok (.ireturn, 1) := by decide +kernel
def wpX7_warmthOf_0 (C : CT)   (x1 : Int32) (V : Mem) (Q : Option AV → Mem → Prop) : Prop :=
  (cI C mX7_hourOfDay [aR 24 0] V (fun x_2 V_1 => (∃ j_3 : Nat, (11 + x_2) = nI j_3 ∧ j_3 < 1479 ∧ (cI C mX7_of [aR 24 0, aI x1, aI 2] V_1 (fun x_5 V_4 => Q (some (aI ((V_1 25 0 j_3) + x_5))) V_4)))))
set_option maxRecDepth 10000 in
theorem okX7_warmthOf_0 {d : Nat} {P : Option AV → Mem → Prop}    (x1 : Int32)  (V : Mem)  (h : wpX7_warmthOf_0 (Cl UM d)   x1 V P) : Gq (Kp (d + 1) mX7_warmthOf UM P) UM cX7_warmthOf 2 RX7 0 [(0, aR 24 0), (1, aI x1)] [] V := by
  unfold wpX7_warmthOf_0 at h
  refine go_aload_n (q := 0) dX7_warmthOf_0 rfl rfl ?_
  refine go_getr fg_X7_9 dX7_warmthOf_1 (mM (by decide) (by decide) rfl) ?_
  refine go_bipush (v := 11) dX7_warmthOf_4 (by decide) ?_
  refine go_aload_n (q := 0) dX7_warmthOf_6 rfl rfl ?_
  refine go_cVI (As := []) (st := [aI 11, aR 25 0]) (r := 24) (i := 0) mv_X7_hourOfDay dX7_warmthOf_7 ml_X7_90 (hr_Kp (Nat.le_refl d)) rfl rfl (mM (by decide) (by decide) rfl) rfl rfl (Nat.le_of_ble_eq_true rfl) h (fun x_2 V_1 h => ?_)
  refine go_iadd dX7_warmthOf_10 ?_
  obtain ⟨j_3, e_j_3, l_j_3, h⟩ := h
  refine go_iald (r := 25) (n := 1479) (j := j_3) rfl (by decide) dX7_warmthOf_11 (mM (by decide) (by decide) rfl) e_j_3 l_j_3 ?_
  refine go_aload_n (q := 0) dX7_warmthOf_12 rfl rfl ?_
  refine go_iload_n (q := 1) dX7_warmthOf_13 rfl rfl ?_
  refine go_iconst (v := 2) dX7_warmthOf_14 (by decide) ?_
  refine go_cVI (As := [aI x1, aI 2]) (st := [aI (V_1 25 0 j_3)]) (r := 24) (i := 0) mv_X7_of dX7_warmthOf_15 ml_X7_94 (hr_Kp (Nat.le_refl d)) rfl rfl (mM (by decide) (by decide) rfl) rfl rfl (Nat.le_of_ble_eq_true rfl) h (fun x_5 V_4 h => ?_)
  refine go_iadd dX7_warmthOf_18 ?_
  exact go_iret rfl dX7_warmthOf_19 h
theorem clX7_warmthOf {d : Nat} {P : Option AV → Mem → Prop}    (x1 : Int32) (V : Mem)  (h : wpX7_warmthOf_0 (Cl UM d)   x1 V P) : Cl UM (d + 1) mX7_warmthOf [aR 24 0, aI x1] V P :=
  cl_of [(0, aR 24 0), (1, aI x1)] (by decide) (fun _ => Nat.le_of_ble_eq_true rfl) (fun _ => rfl) (okX7_warmthOf_0   x1 V  h)
theorem dX7_meltsOf_0 : decode cX7_meltsOf 0 = .ok (.aload_n 0, 1) := by decide +kernel
theorem dX7_meltsOf_1 : decode cX7_meltsOf 1 = .ok (.iload_n 1, 1) := by decide +kernel
theorem dX7_meltsOf_2 : decode cX7_meltsOf 2 = .ok (.iconst 5, 1) := by decide +kernel
theorem dX7_meltsOf_3 : decode cX7_meltsOf 3 = .ok (.invokevirtual 94, 3) := by decide +kernel
theorem dX7_meltsOf_6 : decode cX7_meltsOf 6 = .ok (.istore_n 2, 1) := by decide +kernel
theorem dX7_meltsOf_7 : decode cX7_meltsOf 7 = .ok (.aload_n 0, 1) := by decide +kernel
theorem dX7_meltsOf_8 : decode cX7_meltsOf 8 = .ok (.iload_n 1, 1) := by decide +kernel
theorem dX7_meltsOf_9 : decode cX7_meltsOf 9 = .ok (.invokevirtual 97, 3) := by decide +kernel
theorem dX7_meltsOf_12 : decode cX7_meltsOf 12 = .ok (.istore_n 3, 1) := by decide +kernel
theorem dX7_meltsOf_13 : decode cX7_meltsOf 13 = .ok (.aload_n 0, 1) := by decide +kernel
theorem dX7_meltsOf_14 : decode cX7_meltsOf 14 = .ok (.iconst 0, 1) := by decide +kernel
theorem dX7_meltsOf_15 : decode cX7_meltsOf 15 = .ok (.invokevirtual 101, 3) := by decide +kernel
theorem dX7_meltsOf_18 : decode cX7_meltsOf 18 = .ok (.istore 4, 2) := by decide +kernel
theorem dX7_meltsOf_20 : decode cX7_meltsOf 20 = .ok (.aload_n 0, 1) := by decide +kernel
theorem dX7_meltsOf_21 : decode cX7_meltsOf 21 = .ok (.getfield 45, 3) := by decide +kernel
theorem dX7_meltsOf_24 : decode cX7_meltsOf 24 = .ok (.iconst 0, 1) := by decide +kernel
theorem dX7_meltsOf_25 : decode cX7_meltsOf 25 = .ok (.iload_n 3, 1) := by decide +kernel
theorem dX7_meltsOf_26 : decode cX7_meltsOf 26 = .ok (.iastore, 1) := by decide +kernel
theorem dX7_meltsOf_27 : decode cX7_meltsOf 27 = .ok (.aload_n 0, 1) := by decide +kernel
theorem dX7_meltsOf_28 : decode cX7_meltsOf 28 = .ok (.getfield 45, 3) := by decide +kernel
theorem dX7_meltsOf_31 : decode cX7_meltsOf 31 = .ok (.iconst 1, 1) := by decide +kernel
theorem dX7_meltsOf_32 : decode cX7_meltsOf 32 = .ok (.iload_n 2, 1) := by decide +kernel
theorem dX7_meltsOf_33 : decode cX7_meltsOf 33 = .ok (.iastore, 1) := by decide +kernel
theorem dX7_meltsOf_34 : decode cX7_meltsOf 34 = .ok (.aload_n 0, 1) := by decide +kernel
theorem dX7_meltsOf_35 : decode cX7_meltsOf 35 = .ok (.getfield 45, 3) := by decide +kernel
theorem dX7_meltsOf_38 : decode cX7_meltsOf 38 = .ok (.iconst 2, 1) := by decide +kernel
theorem dX7_meltsOf_39 : decode cX7_meltsOf 39 = .ok (.aload_n 0, 1) := by decide +kernel
theorem dX7_meltsOf_40 : decode cX7_meltsOf 40 = .ok (.iload_n 1, 1) := by decide +kernel
theorem dX7_meltsOf_41 : decode cX7_meltsOf 41 = .ok (.iconst 1, 1) := by decide +kernel
theorem dX7_meltsOf_42 : decode cX7_meltsOf 42 = .ok (.invokevirtual 94, 3) := by decide +kernel
theorem dX7_meltsOf_45 : decode cX7_meltsOf 45 = .ok (.iastore, 1) := by decide +kernel
theorem dX7_meltsOf_46 : decode cX7_meltsOf 46 = .ok (.iload 4, 2) := by decide +kernel
theorem dX7_meltsOf_48 : decode cX7_meltsOf 48 = .ok (.ifCond .ge 20, 3) := by decide +kernel
theorem dX7_meltsOf_51 : decode cX7_meltsOf 51 = .ok (.aload_n 0, 1) := by decide +kernel
theorem dX7_meltsOf_52 : decode cX7_meltsOf 52 = .ok (.iload_n 1, 1) := by decide +kernel
theorem dX7_meltsOf_53 : decode cX7_meltsOf 53 = .ok (.iconst 1, 1) := by decide +kernel
theorem dX7_meltsOf_54 : decode cX7_meltsOf 54 = .ok (.invokevirtual 94, 3) := by decide +kernel
theorem dX7_meltsOf_57 : decode cX7_meltsOf 57 = .ok (.iload_n 3, 1) := by decide +kernel
theorem dX7_meltsOf_58 : decode cX7_meltsOf 58 = .ok (.iconst 0, 1) := by decide +kernel
theorem dX7_meltsOf_59 : decode cX7_meltsOf 59 = .ok (.bipush 99, 2) := by decide +kernel
theorem dX7_meltsOf_61 : decode cX7_meltsOf 61 = .ok (.invokestatic 104, 3) := by decide +kernel
theorem dX7_meltsOf_64 : decode cX7_meltsOf 64 = .ok (.imul, 1) := by decide +kernel
theorem dX7_meltsOf_65 : decode cX7_meltsOf 65 = .ok (.goto 9, 3) := by decide +kernel
theorem dX7_meltsOf_68 : decode cX7_meltsOf 68 = .ok (.aload_n 0, 1) := by decide +kernel
theorem dX7_meltsOf_69 : decode cX7_meltsOf 69 = .ok (.iload 4, 2) := by decide +kernel
theorem dX7_meltsOf_71 : decode cX7_meltsOf 71 = .ok (.invokevirtual 108, 3) := by decide +kernel
theorem dX7_meltsOf_74 : decode cX7_meltsOf 74 = .ok (.iconst 0, 1) := by decide +kernel
theorem dX7_meltsOf_75 : decode cX7_meltsOf 75 = .ok (.iload_n 2, 1) := by decide +kernel
theorem dX7_meltsOf_76 : decode cX7_meltsOf 76 = .ok (.invokestatic 104, 3) := by decide +kernel
theorem dX7_meltsOf_79 : decode cX7_meltsOf 79 = .ok (.istore 5, 2) := by decide +kernel
theorem dX7_meltsOf_81 : decode cX7_meltsOf 81 = .ok (.aload_n 0, 1) := by decide +kernel
theorem dX7_meltsOf_82 : decode cX7_meltsOf 82 = .ok (.iload_n 1, 1) := by decide +kernel
theorem dX7_meltsOf_83 : decode cX7_meltsOf 83 = .ok (.iconst 0, 1) := by decide +kernel
theorem dX7_meltsOf_84 : decode cX7_meltsOf 84 = .ok (.invokevirtual 94, 3) := by decide +kernel
theorem dX7_meltsOf_87 : decode cX7_meltsOf 87 = .ok (.istore 6, 2) := by decide +kernel
theorem dX7_meltsOf_89 : decode cX7_meltsOf 89 = .ok (.iload 6, 2) := by decide +kernel
theorem dX7_meltsOf_91 : decode cX7_meltsOf 91 = .ok (.iconst 5, 1) := by decide +kernel
theorem dX7_meltsOf_92 : decode cX7_meltsOf 92 = .ok (.if_icmp .ne 15, 3) := by decide +kernel
theorem dX7_meltsOf_95 : decode cX7_meltsOf 95 = .ok (.iconst 2, 1) := by decide +kernel
theorem dX7_meltsOf_96 : decode cX7_meltsOf 96 = .ok (.iload 5, 2) := by decide +kernel
theorem dX7_meltsOf_98 : decode cX7_meltsOf 98 = .ok (.imul, 1) := by decide +kernel
theorem dX7_meltsOf_99 : decode cX7_meltsOf 99 = .ok (.iconst 0, 1) := by decide +kernel
theorem dX7_meltsOf_100 : decode cX7_meltsOf 100 = .ok (.iload_n 2, 1) := by decide +kernel
theorem dX7_meltsOf_101 : decode cX7_meltsOf 101 = .ok (.invokestatic 104, 3) := by decide +kernel
theorem dX7_meltsOf_104 : decode cX7_meltsOf 104 = .ok (.goto 18, 3) := by decide +kernel
theorem dX7_meltsOf_107 : decode cX7_meltsOf 107 = .ok (.iload 6, 2) := by decide +kernel
theorem dX7_meltsOf_109 : decode cX7_meltsOf 109 = .ok (.iconst 4, 1) := by decide +kernel
theorem dX7_meltsOf_110 : decode cX7_meltsOf 110 = .ok (.if_icmp .ne 10, 3) := by decide +kernel
theorem dX7_meltsOf_113 : decode cX7_meltsOf 113 = .ok (.iload 5, 2) := by decide +kernel
theorem dX7_meltsOf_115 : decode cX7_meltsOf 115 = .ok (.iconst 2, 1) := by decide +kernel
theorem dX7_meltsOf_116 : decode cX7_meltsOf 116 = .ok (.idiv, 1) := by decide +kernel
theorem dX7_meltsOf_117 : decode cX7_meltsOf 117 = .ok (.goto 5, 3) := by decide +kernel
theorem dX7_meltsOf_120 : decode cX7_meltsOf 120 = .ok (.iload 5, 2) := by decide +kernel
theorem dX7_meltsOf_122 : decode cX7_meltsOf 122 = .ok (.ireturn, 1) := by decide +kernel
def wpX7_meltsOf_74 (C : CT)   (x1 : Int32) (x2 : Int32) (x3 : Int32) (x4 : Int32) (s0 : Int32) (V : Mem) (Q : Option AV → Mem → Prop) : Prop :=
  (cI C mX7_within [aI s0, aI 0, aI x2] V (fun x_2 V_1 => (cI C mX7_of [aR 24 0, aI x1, aI 0] V_1 (fun x_4 V_3 => ((¬ x_4 = 5 → ((¬ x_4 = 4 → Q (some (aI x_2)) V_3) ∧ (x_4 = 4 → Q (some (aI (x_2 / 2))) V_3))) ∧ (x_4 = 5 → (cI C mX7_within [aI (2 * x_2), aI 0, aI x2] V_3 (fun x_7 V_6 => Q (some (aI x_7)) V_6))))))))
set_option maxRecDepth 10000 in
theorem okX7_meltsOf_74 {d : Nat} {P : Option AV → Mem → Prop}    (x1 : Int32) (x2 : Int32) (x3 : Int32) (x4 : Int32) (s0 : Int32)  (V : Mem)  (h : wpX7_meltsOf_74 (Cl UM d)   x1 x2 x3 x4 s0 V P) : Gq (Kp (d + 1) mX7_meltsOf UM P) UM cX7_meltsOf 7 RX7 74 [(0, aR 24 0), (1, aI x1), (2, aI x2), (3, aI x3), (4, aI x4)] [aI s0] V := by
  unfold wpX7_meltsOf_74 at h
  refine go_iconst (v := 0) dX7_meltsOf_74 (by decide) ?_
  refine go_iload_n (q := 2) dX7_meltsOf_75 rfl rfl ?_
  refine go_cSI (As := [aI s0, aI 0, aI x2]) (st := []) ms_X7_within dX7_meltsOf_76 ml_X7_104 (hr_Kp (Nat.le_refl d)) rfl rfl (Nat.le_of_ble_eq_true rfl) h (fun x_2 V_1 h => ?_)
  refine go_istore (al1 := [(5, aI x_2), (0, aR 24 0), (1, aI x1), (2, aI x2), (3, aI x3), (4, aI x4)]) dX7_meltsOf_79 (by decide) rfl ?_
  refine go_aload_n (q := 1) dX7_meltsOf_81 rfl rfl ?_
  refine go_iload_n (q := 2) dX7_meltsOf_82 rfl rfl ?_
  refine go_iconst (v := 0) dX7_meltsOf_83 (by decide) ?_
  refine go_cVI (As := [aI x1, aI 0]) (st := []) (r := 24) (i := 0) mv_X7_of dX7_meltsOf_84 ml_X7_94 (hr_Kp (Nat.le_refl d)) rfl rfl (mM (by decide) (by decide) rfl) rfl rfl (Nat.le_of_ble_eq_true rfl) h (fun x_4 V_3 h => ?_)
  refine go_istore (al1 := [(6, aI x_4), (5, aI x_2), (0, aR 24 0), (1, aI x1), (2, aI x2), (3, aI x3), (4, aI x4)]) dX7_meltsOf_87 (by decide) rfl ?_
  refine go_iload (q := 0) dX7_meltsOf_89 rfl ?_
  refine go_iconst (v := 5) dX7_meltsOf_91 (by decide) ?_
  refine go_icmp_ne (tgt := 107) dX7_meltsOf_92 (by decide) (fun c_8 => ?_) (fun c_8 => ?_)
  · have h := h.1 c_8
    refine go_iload (q := 0) dX7_meltsOf_107 rfl ?_
    refine go_iconst (v := 4) dX7_meltsOf_109 (by decide) ?_
    refine go_icmp_ne (tgt := 120) dX7_meltsOf_110 (by decide) (fun c_5 => ?_) (fun c_5 => ?_)
    · have h := h.1 c_5
      refine go_iload (q := 1) dX7_meltsOf_120 rfl ?_
      exact go_iret rfl dX7_meltsOf_122 h
    · have h := h.2 c_5
      refine go_iload (q := 1) dX7_meltsOf_113 rfl ?_
      refine go_iconst (v := 2) dX7_meltsOf_115 (by decide) ?_
      refine go_idiv dX7_meltsOf_116 (by decide) ?_
      refine go_goto (tgt := 122) dX7_meltsOf_117 (by decide) ?_
      exact go_iret rfl dX7_meltsOf_122 h
  · have h := h.2 c_8
    refine go_iconst (v := 2) dX7_meltsOf_95 (by decide) ?_
    refine go_iload (q := 1) dX7_meltsOf_96 rfl ?_
    refine go_imul dX7_meltsOf_98 ?_
    refine go_iconst (v := 0) dX7_meltsOf_99 (by decide) ?_
    refine go_iload_n (q := 4) dX7_meltsOf_100 rfl rfl ?_
    refine go_cSI (As := [aI (2 * x_2), aI 0, aI x2]) (st := []) ms_X7_within dX7_meltsOf_101 ml_X7_104 (hr_Kp (Nat.le_refl d)) rfl rfl (Nat.le_of_ble_eq_true rfl) h (fun x_7 V_6 h => ?_)
    refine go_goto (tgt := 122) dX7_meltsOf_104 (by decide) ?_
    exact go_iret rfl dX7_meltsOf_122 h
def wpX7_meltsOf_0 (C : CT)   (x1 : Int32) (V : Mem) (Q : Option AV → Mem → Prop) : Prop :=
  (cI C mX7_of [aR 24 0, aI x1, aI 5] V (fun x_2 V_1 => (cI C mX7_warmthOf [aR 24 0, aI x1] V_1 (fun x_4 V_3 => (cI C mX7_counts [aR 24 0, aI 0] V_3 (fun x_6 V_5 => (∀ V_7 : Mem, V_7 = mu V_5 36 0 0 x_4 → (∀ V_8 : Mem, V_8 = mu V_7 36 0 1 x_2 → (cI C mX7_of [aR 24 0, aI x1, aI 1] V_8 (fun x_10 V_9 => (∀ V_11 : Mem, V_11 = mu V_9 36 0 2 x_10 → ((0 ≤ x_6 → (cI C mX7_worksOut [aR 24 0, aI x_6] V_11 (fun x_13 V_12 => wpX7_meltsOf_74 C   x1 x_2 x_4 x_6 x_13 V_12 Q))) ∧ (¬ 0 ≤ x_6 → (cI C mX7_of [aR 24 0, aI x1, aI 1] V_11 (fun x_15 V_14 => (cI C mX7_within [aI x_4, aI 0, aI 99] V_14 (fun x_17 V_16 => wpX7_meltsOf_74 C   x1 x_2 x_4 x_6 (x_15 * x_17) V_16 Q)))))))))))))))))
set_option maxRecDepth 10000 in
theorem okX7_meltsOf_0 {d : Nat} {P : Option AV → Mem → Prop}    (x1 : Int32)  (V : Mem)  (h : wpX7_meltsOf_0 (Cl UM d)   x1 V P) : Gq (Kp (d + 1) mX7_meltsOf UM P) UM cX7_meltsOf 7 RX7 0 [(0, aR 24 0), (1, aI x1)] [] V := by
  unfold wpX7_meltsOf_0 at h
  refine go_aload_n (q := 0) dX7_meltsOf_0 rfl rfl ?_
  refine go_iload_n (q := 1) dX7_meltsOf_1 rfl rfl ?_
  refine go_iconst (v := 5) dX7_meltsOf_2 (by decide) ?_
  refine go_cVI (As := [aI x1, aI 5]) (st := []) (r := 24) (i := 0) mv_X7_of dX7_meltsOf_3 ml_X7_94 (hr_Kp (Nat.le_refl d)) rfl rfl (mM (by decide) (by decide) rfl) rfl rfl (Nat.le_of_ble_eq_true rfl) h (fun x_2 V_1 h => ?_)
  refine go_istore_n (al1 := [(2, aI x_2), (0, aR 24 0), (1, aI x1)]) dX7_meltsOf_6 rfl (by decide) rfl ?_
  refine go_aload_n (q := 1) dX7_meltsOf_7 rfl rfl ?_
  refine go_iload_n (q := 2) dX7_meltsOf_8 rfl rfl ?_
  refine go_cVI (As := [aI x1]) (st := []) (r := 24) (i := 0) mv_X7_warmthOf dX7_meltsOf_9 ml_X7_97 (hr_Kp (Nat.le_refl d)) rfl rfl (mM (by decide) (by decide) rfl) rfl rfl (Nat.le_of_ble_eq_true rfl) h (fun x_4 V_3 h => ?_)
  refine go_istore_n (al1 := [(3, aI x_4), (2, aI x_2), (0, aR 24 0), (1, aI x1)]) dX7_meltsOf_12 rfl (by decide) rfl ?_
  refine go_aload_n (q := 2) dX7_meltsOf_13 rfl rfl ?_
  refine go_iconst (v := 0) dX7_meltsOf_14 (by decide) ?_
  refine go_cVI (As := [aI 0]) (st := []) (r := 24) (i := 0) mv_X7_counts dX7_meltsOf_15 ml_X7_101 (hr_Kp (Nat.le_refl d)) rfl rfl (mM (by decide) (by decide) rfl) rfl rfl (Nat.le_of_ble_eq_true rfl) h (fun x_6 V_5 h => ?_)
  refine go_istore (al1 := [(4, aI x_6), (3, aI x_4), (2, aI x_2), (0, aR 24 0), (1, aI x1)]) dX7_meltsOf_18 (by decide) rfl ?_
  refine go_aload_n (q := 3) dX7_meltsOf_20 rfl rfl ?_
  refine go_getr fg_X7_45 dX7_meltsOf_21 (mM (by decide) (by decide) rfl) ?_
  refine go_iconst (v := 0) dX7_meltsOf_24 (by decide) ?_
  refine go_iload_n (q := 1) dX7_meltsOf_25 rfl rfl ?_
  refine go_iast (r := 36) (n := 4) (j := 0) rfl (by decide) dX7_meltsOf_26 (mM (by decide) (by decide) rfl) (by decide) (by decide) ?_
  refine nmV (fun V_7 e_V_7 => ?_)
  have h := h V_7 e_V_7
  refine go_aload_n (q := 3) dX7_meltsOf_27 rfl rfl ?_
  refine go_getr fg_X7_45 dX7_meltsOf_28 (mM (by decide) (by decide) rfl) ?_
  refine go_iconst (v := 1) dX7_meltsOf_31 (by decide) ?_
  refine go_iload_n (q := 2) dX7_meltsOf_32 rfl rfl ?_
  refine go_iast (r := 36) (n := 4) (j := 1) rfl (by decide) dX7_meltsOf_33 (mM (by decide) (by decide) rfl) (by decide) (by decide) ?_
  refine nmV (fun V_8 e_V_8 => ?_)
  have h := h V_8 e_V_8
  refine go_aload_n (q := 3) dX7_meltsOf_34 rfl rfl ?_
  refine go_getr fg_X7_45 dX7_meltsOf_35 (mM (by decide) (by decide) rfl) ?_
  refine go_iconst (v := 2) dX7_meltsOf_38 (by decide) ?_
  refine go_aload_n (q := 3) dX7_meltsOf_39 rfl rfl ?_
  refine go_iload_n (q := 4) dX7_meltsOf_40 rfl rfl ?_
  refine go_iconst (v := 1) dX7_meltsOf_41 (by decide) ?_
  refine go_cVI (As := [aI x1, aI 1]) (st := [aI 2, aR 36 0]) (r := 24) (i := 0) mv_X7_of dX7_meltsOf_42 ml_X7_94 (hr_Kp (Nat.le_refl d)) rfl rfl (mM (by decide) (by decide) rfl) rfl rfl (Nat.le_of_ble_eq_true rfl) h (fun x_10 V_9 h => ?_)
  refine go_iast (r := 36) (n := 4) (j := 2) rfl (by decide) dX7_meltsOf_45 (mM (by decide) (by decide) rfl) (by decide) (by decide) ?_
  refine nmV (fun V_11 e_V_11 => ?_)
  have h := h V_11 e_V_11
  refine go_iload (q := 0) dX7_meltsOf_46 rfl ?_
  refine go_if_ge (tgt := 68) dX7_meltsOf_48 (by decide) (fun c_18 => ?_) (fun c_18 => ?_)
  · have h := h.1 c_18
    refine go_aload_n (q := 3) dX7_meltsOf_68 rfl rfl ?_
    refine go_iload (q := 0) dX7_meltsOf_69 rfl ?_
    refine go_cVI (As := [aI x_6]) (st := []) (r := 24) (i := 0) mv_X7_worksOut dX7_meltsOf_71 ml_X7_108 (hr_Kp (Nat.le_refl d)) rfl rfl (mM (by decide) (by decide) rfl) rfl rfl (Nat.le_of_ble_eq_true rfl) h (fun x_13 V_12 h => ?_)
    refine go_sub (al1 := [(0, aR 24 0), (1, aI x1), (2, aI x_2), (3, aI x_4), (4, aI x_6)]) [3, 4, 2, 1, 0] rfl ?_
    exact okX7_meltsOf_74   x1 x_2 x_4 x_6 x_13  V_12  h
  · have h := h.2 c_18
    refine go_aload_n (q := 3) dX7_meltsOf_51 rfl rfl ?_
    refine go_iload_n (q := 4) dX7_meltsOf_52 rfl rfl ?_
    refine go_iconst (v := 1) dX7_meltsOf_53 (by decide) ?_
    refine go_cVI (As := [aI x1, aI 1]) (st := []) (r := 24) (i := 0) mv_X7_of dX7_meltsOf_54 ml_X7_94 (hr_Kp (Nat.le_refl d)) rfl rfl (mM (by decide) (by decide) rfl) rfl rfl (Nat.le_of_ble_eq_true rfl) h (fun x_15 V_14 h => ?_)
    refine go_iload_n (q := 1) dX7_meltsOf_57 rfl rfl ?_
    refine go_iconst (v := 0) dX7_meltsOf_58 (by decide) ?_
    refine go_bipush (v := 99) dX7_meltsOf_59 (by decide) ?_
    refine go_cSI (As := [aI x_4, aI 0, aI 99]) (st := [aI x_15]) ms_X7_within dX7_meltsOf_61 ml_X7_104 (hr_Kp (Nat.le_refl d)) rfl rfl (Nat.le_of_ble_eq_true rfl) h (fun x_17 V_16 h => ?_)
    refine go_imul dX7_meltsOf_64 ?_
    refine go_goto (tgt := 74) dX7_meltsOf_65 (by decide) ?_
    refine go_sub (al1 := [(0, aR 24 0), (1, aI x1), (2, aI x_2), (3, aI x_4), (4, aI x_6)]) [3, 4, 2, 1, 0] rfl ?_
    exact okX7_meltsOf_74   x1 x_2 x_4 x_6 (x_15 * x_17)  V_16  h
theorem clX7_meltsOf {d : Nat} {P : Option AV → Mem → Prop}    (x1 : Int32) (V : Mem)  (h : wpX7_meltsOf_0 (Cl UM d)   x1 V P) : Cl UM (d + 1) mX7_meltsOf [aR 24 0, aI x1] V P :=
  cl_of [(0, aR 24 0), (1, aI x1)] (by decide) (fun _ => Nat.le_of_ble_eq_true rfl) (fun _ => rfl) (okX7_meltsOf_0   x1 V  h)
theorem dX7_bearsOf_0 : decode cX7_bearsOf 0 = .ok (.aload_n 0, 1) := by decide +kernel
theorem dX7_bearsOf_1 : decode cX7_bearsOf 1 = .ok (.iload_n 1, 1) := by decide +kernel
theorem dX7_bearsOf_2 : decode cX7_bearsOf 2 = .ok (.iconst 0, 1) := by decide +kernel
theorem dX7_bearsOf_3 : decode cX7_bearsOf 3 = .ok (.invokevirtual 94, 3) := by decide +kernel
theorem dX7_bearsOf_6 : decode cX7_bearsOf 6 = .ok (.istore_n 2, 1) := by decide +kernel
theorem dX7_bearsOf_7 : decode cX7_bearsOf 7 = .ok (.iload_n 2, 1) := by decide +kernel
theorem dX7_bearsOf_8 : decode cX7_bearsOf 8 = .ok (.iconst 2, 1) := by decide +kernel
theorem dX7_bearsOf_9 : decode cX7_bearsOf 9 = .ok (.if_icmp .eq 8, 3) := by decide +kernel
theorem dX7_bearsOf_12 : decode cX7_bearsOf 12 = .ok (.iload_n 2, 1) := by decide +kernel
theorem dX7_bearsOf_13 : decode cX7_bearsOf 13 = .ok (.iconst 4, 1) := by decide +kernel
theorem dX7_bearsOf_14 : decode cX7_bearsOf 14 = .ok (.if_icmp .ne 9, 3) := by decide +kernel
theorem dX7_bearsOf_17 : decode cX7_bearsOf 17 = .ok (.sipush 9999, 3) := by decide +kernel
theorem dX7_bearsOf_20 : decode cX7_bearsOf 20 = .ok (.goto 34, 3) := by decide +kernel
theorem dX7_bearsOf_23 : decode cX7_bearsOf 23 = .ok (.iload_n 2, 1) := by decide +kernel
theorem dX7_bearsOf_24 : decode cX7_bearsOf 24 = .ok (.iconst 1, 1) := by decide +kernel
theorem dX7_bearsOf_25 : decode cX7_bearsOf 25 = .ok (.if_icmp .eq 8, 3) := by decide +kernel
theorem dX7_bearsOf_28 : decode cX7_bearsOf 28 = .ok (.iload_n 2, 1) := by decide +kernel
theorem dX7_bearsOf_29 : decode cX7_bearsOf 29 = .ok (.iconst 3, 1) := by decide +kernel
theorem dX7_bearsOf_30 : decode cX7_bearsOf 30 = .ok (.if_icmp .ne 15, 3) := by decide +kernel
theorem dX7_bearsOf_33 : decode cX7_bearsOf 33 = .ok (.bipush 10, 2) := by decide +kernel
theorem dX7_bearsOf_35 : decode cX7_bearsOf 35 = .ok (.aload_n 0, 1) := by decide +kernel
theorem dX7_bearsOf_36 : decode cX7_bearsOf 36 = .ok (.iload_n 1, 1) := by decide +kernel
theorem dX7_bearsOf_37 : decode cX7_bearsOf 37 = .ok (.iconst 1, 1) := by decide +kernel
theorem dX7_bearsOf_38 : decode cX7_bearsOf 38 = .ok (.invokevirtual 94, 3) := by decide +kernel
theorem dX7_bearsOf_41 : decode cX7_bearsOf 41 = .ok (.imul, 1) := by decide +kernel
theorem dX7_bearsOf_42 : decode cX7_bearsOf 42 = .ok (.goto 12, 3) := by decide +kernel
theorem dX7_bearsOf_45 : decode cX7_bearsOf 45 = .ok (.bipush 50, 2) := by decide +kernel
theorem dX7_bearsOf_47 : decode cX7_bearsOf 47 = .ok (.aload_n 0, 1) := by decide +kernel
theorem dX7_bearsOf_48 : decode cX7_bearsOf 48 = .ok (.iload_n 1, 1) := by decide +kernel
theorem dX7_bearsOf_49 : decode cX7_bearsOf 49 = .ok (.iconst 1, 1) := by decide +kernel
theorem dX7_bearsOf_50 : decode cX7_bearsOf 50 = .ok (.invokevirtual 94, 3) := by decide +kernel
theorem dX7_bearsOf_53 : decode cX7_bearsOf 53 = .ok (.imul, 1) := by decide +kernel
theorem dX7_bearsOf_54 : decode cX7_bearsOf 54 = .ok (.ireturn, 1) := by decide +kernel
def wpX7_bearsOf_33 (C : CT)   (x1 : Int32) (x2 : Int32) (V : Mem) (Q : Option AV → Mem → Prop) : Prop :=
  (cI C mX7_of [aR 24 0, aI x1, aI 1] V (fun x_2 V_1 => Q (some (aI (10 * x_2))) V_1))
set_option maxRecDepth 10000 in
theorem okX7_bearsOf_33 {d : Nat} {P : Option AV → Mem → Prop}    (x1 : Int32) (x2 : Int32)  (V : Mem)  (h : wpX7_bearsOf_33 (Cl UM d)   x1 x2 V P) : Gq (Kp (d + 1) mX7_bearsOf UM P) UM cX7_bearsOf 3 RX7 33 [(0, aR 24 0), (1, aI x1), (2, aI x2)] [] V := by
  unfold wpX7_bearsOf_33 at h
  refine go_bipush (v := 10) dX7_bearsOf_33 (by decide) ?_
  refine go_aload_n (q := 0) dX7_bearsOf_35 rfl rfl ?_
  refine go_iload_n (q := 1) dX7_bearsOf_36 rfl rfl ?_
  refine go_iconst (v := 1) dX7_bearsOf_37 (by decide) ?_
  refine go_cVI (As := [aI x1, aI 1]) (st := [aI 10]) (r := 24) (i := 0) mv_X7_of dX7_bearsOf_38 ml_X7_94 (hr_Kp (Nat.le_refl d)) rfl rfl (mM (by decide) (by decide) rfl) rfl rfl (Nat.le_of_ble_eq_true rfl) h (fun x_2 V_1 h => ?_)
  refine go_imul dX7_bearsOf_41 ?_
  refine go_goto (tgt := 54) dX7_bearsOf_42 (by decide) ?_
  exact go_iret rfl dX7_bearsOf_54 h
def wpX7_bearsOf_0 (C : CT)   (x1 : Int32) (V : Mem) (Q : Option AV → Mem → Prop) : Prop :=
  (cI C mX7_of [aR 24 0, aI x1, aI 0] V (fun x_2 V_1 => ((x_2 = 2 → Q (some (aI 9999)) V_1) ∧ (¬ x_2 = 2 → ((¬ x_2 = 4 → ((x_2 = 1 → wpX7_bearsOf_33 C   x1 x_2 V_1 Q) ∧ (¬ x_2 = 1 → ((¬ x_2 = 3 → (cI C mX7_of [aR 24 0, aI x1, aI 1] V_1 (fun x_4 V_3 => Q (some (aI (50 * x_4))) V_3))) ∧ (x_2 = 3 → wpX7_bearsOf_33 C   x1 x_2 V_1 Q))))) ∧ (x_2 = 4 → Q (some (aI 9999)) V_1))))))
set_option maxRecDepth 10000 in
theorem okX7_bearsOf_0 {d : Nat} {P : Option AV → Mem → Prop}    (x1 : Int32)  (V : Mem)  (h : wpX7_bearsOf_0 (Cl UM d)   x1 V P) : Gq (Kp (d + 1) mX7_bearsOf UM P) UM cX7_bearsOf 3 RX7 0 [(0, aR 24 0), (1, aI x1)] [] V := by
  unfold wpX7_bearsOf_0 at h
  refine go_aload_n (q := 0) dX7_bearsOf_0 rfl rfl ?_
  refine go_iload_n (q := 1) dX7_bearsOf_1 rfl rfl ?_
  refine go_iconst (v := 0) dX7_bearsOf_2 (by decide) ?_
  refine go_cVI (As := [aI x1, aI 0]) (st := []) (r := 24) (i := 0) mv_X7_of dX7_bearsOf_3 ml_X7_94 (hr_Kp (Nat.le_refl d)) rfl rfl (mM (by decide) (by decide) rfl) rfl rfl (Nat.le_of_ble_eq_true rfl) h (fun x_2 V_1 h => ?_)
  refine go_istore_n (al1 := [(2, aI x_2), (0, aR 24 0), (1, aI x1)]) dX7_bearsOf_6 rfl (by decide) rfl ?_
  refine go_iload_n (q := 0) dX7_bearsOf_7 rfl rfl ?_
  refine go_iconst (v := 2) dX7_bearsOf_8 (by decide) ?_
  refine go_icmp_eq (tgt := 17) dX7_bearsOf_9 (by decide) (fun c_8 => ?_) (fun c_8 => ?_)
  · have h := h.1 c_8
    refine go_sipush (v := 9999) dX7_bearsOf_17 (by decide) ?_
    refine go_goto (tgt := 54) dX7_bearsOf_20 (by decide) ?_
    exact go_iret rfl dX7_bearsOf_54 h
  · have h := h.2 c_8
    refine go_iload_n (q := 0) dX7_bearsOf_12 rfl rfl ?_
    refine go_iconst (v := 4) dX7_bearsOf_13 (by decide) ?_
    refine go_icmp_ne (tgt := 23) dX7_bearsOf_14 (by decide) (fun c_7 => ?_) (fun c_7 => ?_)
    · have h := h.1 c_7
      refine go_iload_n (q := 0) dX7_bearsOf_23 rfl rfl ?_
      refine go_iconst (v := 1) dX7_bearsOf_24 (by decide) ?_
      refine go_icmp_eq (tgt := 33) dX7_bearsOf_25 (by decide) (fun c_6 => ?_) (fun c_6 => ?_)
      · have h := h.1 c_6
        refine go_sub (al1 := [(0, aR 24 0), (1, aI x1), (2, aI x_2)]) [1, 2, 0] rfl ?_
        exact okX7_bearsOf_33   x1 x_2  V_1  h
      · have h := h.2 c_6
        refine go_iload_n (q := 0) dX7_bearsOf_28 rfl rfl ?_
        refine go_iconst (v := 3) dX7_bearsOf_29 (by decide) ?_
        refine go_icmp_ne (tgt := 45) dX7_bearsOf_30 (by decide) (fun c_5 => ?_) (fun c_5 => ?_)
        · have h := h.1 c_5
          refine go_bipush (v := 50) dX7_bearsOf_45 (by decide) ?_
          refine go_aload_n (q := 1) dX7_bearsOf_47 rfl rfl ?_
          refine go_iload_n (q := 2) dX7_bearsOf_48 rfl rfl ?_
          refine go_iconst (v := 1) dX7_bearsOf_49 (by decide) ?_
          refine go_cVI (As := [aI x1, aI 1]) (st := [aI 50]) (r := 24) (i := 0) mv_X7_of dX7_bearsOf_50 ml_X7_94 (hr_Kp (Nat.le_refl d)) rfl rfl (mM (by decide) (by decide) rfl) rfl rfl (Nat.le_of_ble_eq_true rfl) h (fun x_4 V_3 h => ?_)
          refine go_imul dX7_bearsOf_53 ?_
          exact go_iret rfl dX7_bearsOf_54 h
        · have h := h.2 c_5
          refine go_sub (al1 := [(0, aR 24 0), (1, aI x1), (2, aI x_2)]) [1, 2, 0] rfl ?_
          exact okX7_bearsOf_33   x1 x_2  V_1  h
    · have h := h.2 c_7
      refine go_sipush (v := 9999) dX7_bearsOf_17 (by decide) ?_
      refine go_goto (tgt := 54) dX7_bearsOf_20 (by decide) ?_
      exact go_iret rfl dX7_bearsOf_54 h
theorem clX7_bearsOf {d : Nat} {P : Option AV → Mem → Prop}    (x1 : Int32) (V : Mem)  (h : wpX7_bearsOf_0 (Cl UM d)   x1 V P) : Cl UM (d + 1) mX7_bearsOf [aR 24 0, aI x1] V P :=
  cl_of [(0, aR 24 0), (1, aI x1)] (by decide) (fun _ => Nat.le_of_ble_eq_true rfl) (fun _ => rfl) (okX7_bearsOf_0   x1 V  h)
theorem dX7_owns_0 : decode cX7_owns 0 = .ok (.aload_n 0, 1) := by decide +kernel
theorem dX7_owns_1 : decode cX7_owns 1 = .ok (.iconst 1, 1) := by decide +kernel
theorem dX7_owns_2 : decode cX7_owns 2 = .ok (.invokevirtual 101, 3) := by decide +kernel
theorem dX7_owns_5 : decode cX7_owns 5 = .ok (.istore_n 2, 1) := by decide +kernel
theorem dX7_owns_6 : decode cX7_owns 6 = .ok (.aload_n 0, 1) := by decide +kernel
theorem dX7_owns_7 : decode cX7_owns 7 = .ok (.getfield 45, 3) := by decide +kernel
theorem dX7_owns_10 : decode cX7_owns 10 = .ok (.iconst 0, 1) := by decide +kernel
theorem dX7_owns_11 : decode cX7_owns 11 = .ok (.aload_n 0, 1) := by decide +kernel
theorem dX7_owns_12 : decode cX7_owns 12 = .ok (.invokevirtual 90, 3) := by decide +kernel
theorem dX7_owns_15 : decode cX7_owns 15 = .ok (.iastore, 1) := by decide +kernel
theorem dX7_owns_16 : decode cX7_owns 16 = .ok (.aload_n 0, 1) := by decide +kernel
theorem dX7_owns_17 : decode cX7_owns 17 = .ok (.getfield 45, 3) := by decide +kernel
theorem dX7_owns_20 : decode cX7_owns 20 = .ok (.iconst 1, 1) := by decide +kernel
theorem dX7_owns_21 : decode cX7_owns 21 = .ok (.aload_n 0, 1) := by decide +kernel
theorem dX7_owns_22 : decode cX7_owns 22 = .ok (.iload_n 1, 1) := by decide +kernel
theorem dX7_owns_23 : decode cX7_owns 23 = .ok (.invokevirtual 97, 3) := by decide +kernel
theorem dX7_owns_26 : decode cX7_owns 26 = .ok (.iastore, 1) := by decide +kernel
theorem dX7_owns_27 : decode cX7_owns 27 = .ok (.iload_n 2, 1) := by decide +kernel
theorem dX7_owns_28 : decode cX7_owns 28 = .ok (.ifCond .ge 24, 3) := by decide +kernel
theorem dX7_owns_31 : decode cX7_owns 31 = .ok (.aload_n 0, 1) := by decide +kernel
theorem dX7_owns_32 : decode cX7_owns 32 = .ok (.invokevirtual 90, 3) := by decide +kernel
theorem dX7_owns_35 : decode cX7_owns 35 = .ok (.aload_n 0, 1) := by decide +kernel
theorem dX7_owns_36 : decode cX7_owns 36 = .ok (.getfield 9, 3) := by decide +kernel
theorem dX7_owns_39 : decode cX7_owns 39 = .ok (.iconst 3, 1) := by decide +kernel
theorem dX7_owns_40 : decode cX7_owns 40 = .ok (.iaload, 1) := by decide +kernel
theorem dX7_owns_41 : decode cX7_owns 41 = .ok (.if_icmp .lt 7, 3) := by decide +kernel
theorem dX7_owns_44 : decode cX7_owns 44 = .ok (.iconst 1, 1) := by decide +kernel
theorem dX7_owns_45 : decode cX7_owns 45 = .ok (.goto 20, 3) := by decide +kernel
theorem dX7_owns_48 : decode cX7_owns 48 = .ok (.iconst 0, 1) := by decide +kernel
theorem dX7_owns_49 : decode cX7_owns 49 = .ok (.goto 16, 3) := by decide +kernel
theorem dX7_owns_52 : decode cX7_owns 52 = .ok (.aload_n 0, 1) := by decide +kernel
theorem dX7_owns_53 : decode cX7_owns 53 = .ok (.iload_n 2, 1) := by decide +kernel
theorem dX7_owns_54 : decode cX7_owns 54 = .ok (.invokevirtual 108, 3) := by decide +kernel
theorem dX7_owns_57 : decode cX7_owns 57 = .ok (.ifCond .eq 7, 3) := by decide +kernel
theorem dX7_owns_60 : decode cX7_owns 60 = .ok (.iconst 1, 1) := by decide +kernel
theorem dX7_owns_61 : decode cX7_owns 61 = .ok (.goto 4, 3) := by decide +kernel
theorem dX7_owns_64 : decode cX7_owns 64 = .ok (.iconst 0, 1) := by decide +kernel
theorem dX7_owns_65 : decode cX7_owns 65 = .ok (.ireturn, 1) := by decide +kernel
def wpX7_owns_0 (C : CT)   (x1 : Int32) (V : Mem) (Q : Option AV → Mem → Prop) : Prop :=
  (cI C mX7_counts [aR 24 0, aI 1] V (fun x_2 V_1 => (cI C mX7_hourOfDay [aR 24 0] V_1 (fun x_4 V_3 => (∀ V_5 : Mem, V_5 = mu V_3 36 0 0 x_4 → (cI C mX7_warmthOf [aR 24 0, aI x1] V_5 (fun x_7 V_6 => (∀ V_8 : Mem, V_8 = mu V_6 36 0 1 x_7 → ((0 ≤ x_2 → (cI C mX7_worksOut [aR 24 0, aI x_2] V_8 (fun x_10 V_9 => ((x_10 = 0 → Q (some (aI 0)) V_9) ∧ (¬ x_10 = 0 → Q (some (aI 1)) V_9))))) ∧ (¬ 0 ≤ x_2 → (cI C mX7_hourOfDay [aR 24 0] V_8 (fun x_13 V_12 => ((x_13 < (V_12 25 0 3) → Q (some (aI 0)) V_12) ∧ (¬ x_13 < (V_12 25 0 3) → Q (some (aI 1)) V_12))))))))))))))
set_option maxRecDepth 10000 in
theorem okX7_owns_0 {d : Nat} {P : Option AV → Mem → Prop}    (x1 : Int32)  (V : Mem)  (h : wpX7_owns_0 (Cl UM d)   x1 V P) : Gq (Kp (d + 1) mX7_owns UM P) UM cX7_owns 3 RX7 0 [(0, aR 24 0), (1, aI x1)] [] V := by
  unfold wpX7_owns_0 at h
  refine go_aload_n (q := 0) dX7_owns_0 rfl rfl ?_
  refine go_iconst (v := 1) dX7_owns_1 (by decide) ?_
  refine go_cVI (As := [aI 1]) (st := []) (r := 24) (i := 0) mv_X7_counts dX7_owns_2 ml_X7_101 (hr_Kp (Nat.le_refl d)) rfl rfl (mM (by decide) (by decide) rfl) rfl rfl (Nat.le_of_ble_eq_true rfl) h (fun x_2 V_1 h => ?_)
  refine go_istore_n (al1 := [(2, aI x_2), (0, aR 24 0), (1, aI x1)]) dX7_owns_5 rfl (by decide) rfl ?_
  refine go_aload_n (q := 1) dX7_owns_6 rfl rfl ?_
  refine go_getr fg_X7_45 dX7_owns_7 (mM (by decide) (by decide) rfl) ?_
  refine go_iconst (v := 0) dX7_owns_10 (by decide) ?_
  refine go_aload_n (q := 1) dX7_owns_11 rfl rfl ?_
  refine go_cVI (As := []) (st := [aI 0, aR 36 0]) (r := 24) (i := 0) mv_X7_hourOfDay dX7_owns_12 ml_X7_90 (hr_Kp (Nat.le_refl d)) rfl rfl (mM (by decide) (by decide) rfl) rfl rfl (Nat.le_of_ble_eq_true rfl) h (fun x_4 V_3 h => ?_)
  refine go_iast (r := 36) (n := 4) (j := 0) rfl (by decide) dX7_owns_15 (mM (by decide) (by decide) rfl) (by decide) (by decide) ?_
  refine nmV (fun V_5 e_V_5 => ?_)
  have h := h V_5 e_V_5
  refine go_aload_n (q := 1) dX7_owns_16 rfl rfl ?_
  refine go_getr fg_X7_45 dX7_owns_17 (mM (by decide) (by decide) rfl) ?_
  refine go_iconst (v := 1) dX7_owns_20 (by decide) ?_
  refine go_aload_n (q := 1) dX7_owns_21 rfl rfl ?_
  refine go_iload_n (q := 2) dX7_owns_22 rfl rfl ?_
  refine go_cVI (As := [aI x1]) (st := [aI 1, aR 36 0]) (r := 24) (i := 0) mv_X7_warmthOf dX7_owns_23 ml_X7_97 (hr_Kp (Nat.le_refl d)) rfl rfl (mM (by decide) (by decide) rfl) rfl rfl (Nat.le_of_ble_eq_true rfl) h (fun x_7 V_6 h => ?_)
  refine go_iast (r := 36) (n := 4) (j := 1) rfl (by decide) dX7_owns_26 (mM (by decide) (by decide) rfl) (by decide) (by decide) ?_
  refine nmV (fun V_8 e_V_8 => ?_)
  have h := h V_8 e_V_8
  refine go_iload_n (q := 0) dX7_owns_27 rfl rfl ?_
  refine go_if_ge (tgt := 52) dX7_owns_28 (by decide) (fun c_15 => ?_) (fun c_15 => ?_)
  · have h := h.1 c_15
    refine go_aload_n (q := 1) dX7_owns_52 rfl rfl ?_
    refine go_iload_n (q := 0) dX7_owns_53 rfl rfl ?_
    refine go_cVI (As := [aI x_2]) (st := []) (r := 24) (i := 0) mv_X7_worksOut dX7_owns_54 ml_X7_108 (hr_Kp (Nat.le_refl d)) rfl rfl (mM (by decide) (by decide) rfl) rfl rfl (Nat.le_of_ble_eq_true rfl) h (fun x_10 V_9 h => ?_)
    refine go_if_eq (tgt := 64) dX7_owns_57 (by decide) (fun c_11 => ?_) (fun c_11 => ?_)
    · have h := h.1 c_11
      refine go_iconst (v := 0) dX7_owns_64 (by decide) ?_
      exact go_bret rfl dX7_owns_65 (by decide) h
    · have h := h.2 c_11
      refine go_iconst (v := 1) dX7_owns_60 (by decide) ?_
      refine go_goto (tgt := 65) dX7_owns_61 (by decide) ?_
      exact go_bret rfl dX7_owns_65 (by decide) h
  · have h := h.2 c_15
    refine go_aload_n (q := 1) dX7_owns_31 rfl rfl ?_
    refine go_cVI (As := []) (st := []) (r := 24) (i := 0) mv_X7_hourOfDay dX7_owns_32 ml_X7_90 (hr_Kp (Nat.le_refl d)) rfl rfl (mM (by decide) (by decide) rfl) rfl rfl (Nat.le_of_ble_eq_true rfl) h (fun x_13 V_12 h => ?_)
    refine go_aload_n (q := 1) dX7_owns_35 rfl rfl ?_
    refine go_getr fg_X7_9 dX7_owns_36 (mM (by decide) (by decide) rfl) ?_
    refine go_iconst (v := 3) dX7_owns_39 (by decide) ?_
    refine go_iald (r := 25) (n := 1479) (j := 3) rfl (by decide) dX7_owns_40 (mM (by decide) (by decide) rfl) (by decide) (by decide) ?_
    refine go_icmp_lt (tgt := 48) dX7_owns_41 (by decide) (fun c_14 => ?_) (fun c_14 => ?_)
    · have h := h.1 c_14
      refine go_iconst (v := 0) dX7_owns_48 (by decide) ?_
      refine go_goto (tgt := 65) dX7_owns_49 (by decide) ?_
      exact go_bret rfl dX7_owns_65 (by decide) h
    · have h := h.2 c_14
      refine go_iconst (v := 1) dX7_owns_44 (by decide) ?_
      refine go_goto (tgt := 65) dX7_owns_45 (by decide) ?_
      exact go_bret rfl dX7_owns_65 (by decide) h
theorem clX7_owns {d : Nat} {P : Option AV → Mem → Prop}    (x1 : Int32) (V : Mem)  (h : wpX7_owns_0 (Cl UM d)   x1 V P) : Cl UM (d + 1) mX7_owns [aR 24 0, aI x1] V P :=
  cl_of [(0, aR 24 0), (1, aI x1)] (by decide) (fun _ => Nat.le_of_ble_eq_true rfl) (fun _ => rfl) (okX7_owns_0   x1 V  h)
theorem dX7_worthOf_0 : decode cX7_worthOf 0 = .ok (.aload_n 0, 1) := by decide +kernel
theorem dX7_worthOf_1 : decode cX7_worthOf 1 = .ok (.iload_n 1, 1) := by decide +kernel
theorem dX7_worthOf_2 : decode cX7_worthOf 2 = .ok (.iconst 1, 1) := by decide +kernel
theorem dX7_worthOf_3 : decode cX7_worthOf 3 = .ok (.invokevirtual 94, 3) := by decide +kernel
theorem dX7_worthOf_6 : decode cX7_worthOf 6 = .ok (.istore_n 2, 1) := by decide +kernel
theorem dX7_worthOf_7 : decode cX7_worthOf 7 = .ok (.aload_n 0, 1) := by decide +kernel
theorem dX7_worthOf_8 : decode cX7_worthOf 8 = .ok (.iload_n 1, 1) := by decide +kernel
theorem dX7_worthOf_9 : decode cX7_worthOf 9 = .ok (.iconst 0, 1) := by decide +kernel
theorem dX7_worthOf_10 : decode cX7_worthOf 10 = .ok (.invokevirtual 94, 3) := by decide +kernel
theorem dX7_worthOf_13 : decode cX7_worthOf 13 = .ok (.tableswitch 58 1 5 #[35, 39, 44, 50, 55], 35) := by decide +kernel
theorem dX7_worthOf_48 : decode cX7_worthOf 48 = .ok (.iload_n 2, 1) := by decide +kernel
theorem dX7_worthOf_49 : decode cX7_worthOf 49 = .ok (.iconst 3, 1) := by decide +kernel
theorem dX7_worthOf_50 : decode cX7_worthOf 50 = .ok (.iadd, 1) := by decide +kernel
theorem dX7_worthOf_51 : decode cX7_worthOf 51 = .ok (.ireturn, 1) := by decide +kernel
theorem dX7_worthOf_52 : decode cX7_worthOf 52 = .ok (.bipush 20, 2) := by decide +kernel
theorem dX7_worthOf_54 : decode cX7_worthOf 54 = .ok (.iload_n 2, 1) := by decide +kernel
theorem dX7_worthOf_55 : decode cX7_worthOf 55 = .ok (.isub, 1) := by decide +kernel
theorem dX7_worthOf_56 : decode cX7_worthOf 56 = .ok (.ireturn, 1) := by decide +kernel
theorem dX7_worthOf_57 : decode cX7_worthOf 57 = .ok (.iconst 2, 1) := by decide +kernel
theorem dX7_worthOf_58 : decode cX7_worthOf 58 = .ok (.iload_n 2, 1) := by decide +kernel
theorem dX7_worthOf_59 : decode cX7_worthOf 59 = .ok (.iconst 3, 1) := by decide +kernel
theorem dX7_worthOf_60 : decode cX7_worthOf 60 = .ok (.iadd, 1) := by decide +kernel
theorem dX7_worthOf_61 : decode cX7_worthOf 61 = .ok (.imul, 1) := by decide +kernel
theorem dX7_worthOf_62 : decode cX7_worthOf 62 = .ok (.ireturn, 1) := by decide +kernel
theorem dX7_worthOf_63 : decode cX7_worthOf 63 = .ok (.bipush 18, 2) := by decide +kernel
theorem dX7_worthOf_65 : decode cX7_worthOf 65 = .ok (.iload_n 2, 1) := by decide +kernel
theorem dX7_worthOf_66 : decode cX7_worthOf 66 = .ok (.isub, 1) := by decide +kernel
theorem dX7_worthOf_67 : decode cX7_worthOf 67 = .ok (.ireturn, 1) := by decide +kernel
theorem dX7_worthOf_68 : decode cX7_worthOf 68 = .ok (.bipush 30, 2) := by decide +kernel
theorem dX7_worthOf_70 : decode cX7_worthOf 70 = .ok (.ireturn, 1) := by decide +kernel
theorem dX7_worthOf_71 : decode cX7_worthOf 71 = .ok (.iload_n 2, 1) := by decide +kernel
theorem dX7_worthOf_72 : decode cX7_worthOf 72 = .ok (.ireturn, 1) := by decide +kernel
def wpX7_worthOf_0 (C : CT)   (x1 : Int32) (V : Mem) (Q : Option AV → Mem → Prop) : Prop :=
  (cI C mX7_of [aR 24 0, aI x1, aI 1] V (fun x_2 V_1 => (cI C mX7_of [aR 24 0, aI x1, aI 0] V_1 (fun x_4 V_3 => ((x_4 = 1 → Q (some (aI (x_2 + 3))) V_3) ∧ (x_4 = 2 → Q (some (aI (20 - x_2))) V_3) ∧ (x_4 = 3 → Q (some (aI (2 * (x_2 + 3)))) V_3) ∧ (x_4 = 4 → Q (some (aI (18 - x_2))) V_3) ∧ (x_4 = 5 → Q (some (aI 30)) V_3) ∧ (¬ x_4 = 1 ∧ ¬ x_4 = 2 ∧ ¬ x_4 = 3 ∧ ¬ x_4 = 4 ∧ ¬ x_4 = 5 → Q (some (aI x_2)) V_3))))))
set_option maxRecDepth 10000 in
theorem okX7_worthOf_0 {d : Nat} {P : Option AV → Mem → Prop}    (x1 : Int32)  (V : Mem)  (h : wpX7_worthOf_0 (Cl UM d)   x1 V P) : Gq (Kp (d + 1) mX7_worthOf UM P) UM cX7_worthOf 3 RX7 0 [(0, aR 24 0), (1, aI x1)] [] V := by
  unfold wpX7_worthOf_0 at h
  refine go_aload_n (q := 0) dX7_worthOf_0 rfl rfl ?_
  refine go_iload_n (q := 1) dX7_worthOf_1 rfl rfl ?_
  refine go_iconst (v := 1) dX7_worthOf_2 (by decide) ?_
  refine go_cVI (As := [aI x1, aI 1]) (st := []) (r := 24) (i := 0) mv_X7_of dX7_worthOf_3 ml_X7_94 (hr_Kp (Nat.le_refl d)) rfl rfl (mM (by decide) (by decide) rfl) rfl rfl (Nat.le_of_ble_eq_true rfl) h (fun x_2 V_1 h => ?_)
  refine go_istore_n (al1 := [(2, aI x_2), (0, aR 24 0), (1, aI x1)]) dX7_worthOf_6 rfl (by decide) rfl ?_
  refine go_aload_n (q := 1) dX7_worthOf_7 rfl rfl ?_
  refine go_iload_n (q := 2) dX7_worthOf_8 rfl rfl ?_
  refine go_iconst (v := 0) dX7_worthOf_9 (by decide) ?_
  refine go_cVI (As := [aI x1, aI 0]) (st := []) (r := 24) (i := 0) mv_X7_of dX7_worthOf_10 ml_X7_94 (hr_Kp (Nat.le_refl d)) rfl rfl (mM (by decide) (by decide) rfl) rfl rfl (Nat.le_of_ble_eq_true rfl) h (fun x_4 V_3 h => ?_)
  by_cases c13_0 : x_4 = 1
  · have h := h.1 c13_0
    refine go_tabC (z := 1) (off := 35) (tgt := 48) c13_0 dX7_worthOf_13 (by decide) (by decide) rfl (by decide) ?_
    refine go_iload_n (q := 0) dX7_worthOf_48 rfl rfl ?_
    refine go_iconst (v := 3) dX7_worthOf_49 (by decide) ?_
    refine go_iadd dX7_worthOf_50 ?_
    exact go_iret rfl dX7_worthOf_51 h
  by_cases c13_1 : x_4 = 2
  · have h := h.2.1 c13_1
    refine go_tabC (z := 2) (off := 39) (tgt := 52) c13_1 dX7_worthOf_13 (by decide) (by decide) rfl (by decide) ?_
    refine go_bipush (v := 20) dX7_worthOf_52 (by decide) ?_
    refine go_iload_n (q := 0) dX7_worthOf_54 rfl rfl ?_
    refine go_isub dX7_worthOf_55 ?_
    exact go_iret rfl dX7_worthOf_56 h
  by_cases c13_2 : x_4 = 3
  · have h := h.2.2.1 c13_2
    refine go_tabC (z := 3) (off := 44) (tgt := 57) c13_2 dX7_worthOf_13 (by decide) (by decide) rfl (by decide) ?_
    refine go_iconst (v := 2) dX7_worthOf_57 (by decide) ?_
    refine go_iload_n (q := 0) dX7_worthOf_58 rfl rfl ?_
    refine go_iconst (v := 3) dX7_worthOf_59 (by decide) ?_
    refine go_iadd dX7_worthOf_60 ?_
    refine go_imul dX7_worthOf_61 ?_
    exact go_iret rfl dX7_worthOf_62 h
  by_cases c13_3 : x_4 = 4
  · have h := h.2.2.2.1 c13_3
    refine go_tabC (z := 4) (off := 50) (tgt := 63) c13_3 dX7_worthOf_13 (by decide) (by decide) rfl (by decide) ?_
    refine go_bipush (v := 18) dX7_worthOf_63 (by decide) ?_
    refine go_iload_n (q := 0) dX7_worthOf_65 rfl rfl ?_
    refine go_isub dX7_worthOf_66 ?_
    exact go_iret rfl dX7_worthOf_67 h
  by_cases c13_4 : x_4 = 5
  · have h := h.2.2.2.2.1 c13_4
    refine go_tabC (z := 5) (off := 55) (tgt := 68) c13_4 dX7_worthOf_13 (by decide) (by decide) rfl (by decide) ?_
    refine go_bipush (v := 30) dX7_worthOf_68 (by decide) ?_
    exact go_iret rfl dX7_worthOf_70 h
  have h := h.2.2.2.2.2 ⟨c13_0, c13_1, c13_2, c13_3, c13_4⟩
  have q_c13_0 := lv_neT c13_0 (show (1 : Int32).toInt = 1 from rfl)
  have q_c13_1 := lv_neT c13_1 (show (2 : Int32).toInt = 2 from rfl)
  have q_c13_2 := lv_neT c13_2 (show (3 : Int32).toInt = 3 from rfl)
  have q_c13_3 := lv_neT c13_3 (show (4 : Int32).toInt = 4 from rfl)
  have q_c13_4 := lv_neT c13_4 (show (5 : Int32).toInt = 5 from rfl)
  refine go_tabOut (tgt := 71) dX7_worthOf_13 (by omega) (by decide) ?_
  refine go_iload_n (q := 0) dX7_worthOf_71 rfl rfl ?_
  exact go_iret rfl dX7_worthOf_72 h
theorem clX7_worthOf {d : Nat} {P : Option AV → Mem → Prop}    (x1 : Int32) (V : Mem)  (h : wpX7_worthOf_0 (Cl UM d)   x1 V P) : Cl UM (d + 1) mX7_worthOf [aR 24 0, aI x1] V P :=
  cl_of [(0, aR 24 0), (1, aI x1)] (by decide) (fun _ => Nat.le_of_ble_eq_true rfl) (fun _ => rfl) (okX7_worthOf_0   x1 V  h)
theorem dX7_told_0 : decode cX7_told 0 = .ok (.aload_n 0, 1) := by decide +kernel
theorem dX7_told_1 : decode cX7_told 1 = .ok (.iload_n 1, 1) := by decide +kernel
theorem dX7_told_2 : decode cX7_told 2 = .ok (.invokevirtual 111, 3) := by decide +kernel
theorem dX7_told_5 : decode cX7_told 5 = .ok (.ifCond .ne 6, 3) := by decide +kernel
theorem dX7_told_8 : decode cX7_told 8 = .ok (.ldc 84, 2) := by decide +kernel
theorem dX7_told_10 : decode cX7_told 10 = .ok (.ireturn, 1) := by decide +kernel
theorem dX7_told_11 : decode cX7_told 11 = .ok (.iload_n 2, 1) := by decide +kernel
theorem dX7_told_12 : decode cX7_told 12 = .ok (.tableswitch 105 0 10 #[60, 60, 60, 60, 60, 60, 67, 73, 79, 85, 99], 60) := by decide +kernel
theorem dX7_told_72 : decode cX7_told 72 = .ok (.aload_n 0, 1) := by decide +kernel
theorem dX7_told_73 : decode cX7_told 73 = .ok (.iload_n 1, 1) := by decide +kernel
theorem dX7_told_74 : decode cX7_told 74 = .ok (.iload_n 2, 1) := by decide +kernel
theorem dX7_told_75 : decode cX7_told 75 = .ok (.invokevirtual 94, 3) := by decide +kernel
theorem dX7_told_78 : decode cX7_told 78 = .ok (.ireturn, 1) := by decide +kernel
theorem dX7_told_79 : decode cX7_told 79 = .ok (.aload_n 0, 1) := by decide +kernel
theorem dX7_told_80 : decode cX7_told 80 = .ok (.iload_n 1, 1) := by decide +kernel
theorem dX7_told_81 : decode cX7_told 81 = .ok (.invokevirtual 97, 3) := by decide +kernel
theorem dX7_told_84 : decode cX7_told 84 = .ok (.ireturn, 1) := by decide +kernel
theorem dX7_told_85 : decode cX7_told 85 = .ok (.aload_n 0, 1) := by decide +kernel
theorem dX7_told_86 : decode cX7_told 86 = .ok (.iload_n 1, 1) := by decide +kernel
theorem dX7_told_87 : decode cX7_told 87 = .ok (.invokevirtual 115, 3) := by decide +kernel
theorem dX7_told_90 : decode cX7_told 90 = .ok (.ireturn, 1) := by decide +kernel
theorem dX7_told_91 : decode cX7_told 91 = .ok (.aload_n 0, 1) := by decide +kernel
theorem dX7_told_92 : decode cX7_told 92 = .ok (.iload_n 1, 1) := by decide +kernel
theorem dX7_told_93 : decode cX7_told 93 = .ok (.invokevirtual 118, 3) := by decide +kernel
theorem dX7_told_96 : decode cX7_told 96 = .ok (.ireturn, 1) := by decide +kernel
theorem dX7_told_97 : decode cX7_told 97 = .ok (.aload_n 0, 1) := by decide +kernel
theorem dX7_told_98 : decode cX7_told 98 = .ok (.iload_n 1, 1) := by decide +kernel
theorem dX7_told_99 : decode cX7_told 99 = .ok (.invokevirtual 121, 3) := by decide +kernel
theorem dX7_told_102 : decode cX7_told 102 = .ok (.ifCond .eq 7, 3) := by decide +kernel
theorem dX7_told_105 : decode cX7_told 105 = .ok (.iconst 1, 1) := by decide +kernel
theorem dX7_told_106 : decode cX7_told 106 = .ok (.goto 4, 3) := by decide +kernel
theorem dX7_told_109 : decode cX7_told 109 = .ok (.iconst 0, 1) := by decide +kernel
theorem dX7_told_110 : decode cX7_told 110 = .ok (.ireturn, 1) := by decide +kernel
theorem dX7_told_111 : decode cX7_told 111 = .ok (.aload_n 0, 1) := by decide +kernel
theorem dX7_told_112 : decode cX7_told 112 = .ok (.iload_n 1, 1) := by decide +kernel
theorem dX7_told_113 : decode cX7_told 113 = .ok (.invokevirtual 124, 3) := by decide +kernel
theorem dX7_told_116 : decode cX7_told 116 = .ok (.ireturn, 1) := by decide +kernel
theorem dX7_told_117 : decode cX7_told 117 = .ok (.ldc 84, 2) := by decide +kernel
theorem dX7_told_119 : decode cX7_told 119 = .ok (.ireturn, 1) := by decide +kernel
def wpX7_told_0 (C : CT)   (x1 : Int32) (x2 : Int32) (V : Mem) (Q : Option AV → Mem → Prop) : Prop :=
  (cI C mX7_isRoof [aR 24 0, aI x1] V (fun x_2 V_1 => ((¬ x_2 = 0 → ((x2 = 0 → (cI C mX7_of [aR 24 0, aI x1, aI x2] V_1 (fun x_4 V_3 => Q (some (aI x_4)) V_3))) ∧ (x2 = 1 → (cI C mX7_of [aR 24 0, aI x1, aI x2] V_1 (fun x_6 V_5 => Q (some (aI x_6)) V_5))) ∧ (x2 = 2 → (cI C mX7_of [aR 24 0, aI x1, aI x2] V_1 (fun x_8 V_7 => Q (some (aI x_8)) V_7))) ∧ (x2 = 3 → (cI C mX7_of [aR 24 0, aI x1, aI x2] V_1 (fun x_10 V_9 => Q (some (aI x_10)) V_9))) ∧ (x2 = 4 → (cI C mX7_of [aR 24 0, aI x1, aI x2] V_1 (fun x_12 V_11 => Q (some (aI x_12)) V_11))) ∧ (x2 = 5 → (cI C mX7_of [aR 24 0, aI x1, aI x2] V_1 (fun x_14 V_13 => Q (some (aI x_14)) V_13))) ∧ (x2 = 6 → (cI C mX7_warmthOf [aR 24 0, aI x1] V_1 (fun x_16 V_15 => Q (some (aI x_16)) V_15))) ∧ (x2 = 7 → (cI C mX7_meltsOf [aR 24 0, aI x1] V_1 (fun x_18 V_17 => Q (some (aI x_18)) V_17))) ∧ (x2 = 8 → (cI C mX7_bearsOf [aR 24 0, aI x1] V_1 (fun x_20 V_19 => Q (some (aI x_20)) V_19))) ∧ (x2 = 9 → (cI C mX7_owns [aR 24 0, aI x1] V_1 (fun x_22 V_21 => ((x_22 = 0 → Q (some (aI 0)) V_21) ∧ (¬ x_22 = 0 → Q (some (aI 1)) V_21))))) ∧ (x2 = 10 → (cI C mX7_worthOf [aR 24 0, aI x1] V_1 (fun x_25 V_24 => Q (some (aI x_25)) V_24))) ∧ (¬ x2 = 0 ∧ ¬ x2 = 1 ∧ ¬ x2 = 2 ∧ ¬ x2 = 3 ∧ ¬ x2 = 4 ∧ ¬ x2 = 5 ∧ ¬ x2 = 6 ∧ ¬ x2 = 7 ∧ ¬ x2 = 8 ∧ ¬ x2 = 9 ∧ ¬ x2 = 10 → Q (some (aI (-1000000001))) V_1))) ∧ (x_2 = 0 → Q (some (aI (-1000000001))) V_1))))
set_option maxRecDepth 10000 in
theorem okX7_told_0 {d : Nat} {P : Option AV → Mem → Prop}    (x1 : Int32) (x2 : Int32)  (V : Mem)  (h : wpX7_told_0 (Cl UM d)   x1 x2 V P) : Gq (Kp (d + 1) mX7_told UM P) UM cX7_told 3 RX7 0 [(0, aR 24 0), (1, aI x1), (2, aI x2)] [] V := by
  unfold wpX7_told_0 at h
  refine go_aload_n (q := 0) dX7_told_0 rfl rfl ?_
  refine go_iload_n (q := 1) dX7_told_1 rfl rfl ?_
  refine go_cVI (As := [aI x1]) (st := []) (r := 24) (i := 0) mv_X7_isRoof dX7_told_2 ml_X7_111 (hr_Kp (Nat.le_refl d)) rfl rfl (mM (by decide) (by decide) rfl) rfl rfl (Nat.le_of_ble_eq_true rfl) h (fun x_2 V_1 h => ?_)
  refine go_if_ne (tgt := 11) dX7_told_5 (by decide) (fun c_26 => ?_) (fun c_26 => ?_)
  · have h := h.1 c_26
    refine go_iload_n (q := 2) dX7_told_11 rfl rfl ?_
    by_cases c12_0 : x2 = 0
    · have h := h.1 c12_0
      refine go_tabC (z := 0) (off := 60) (tgt := 72) c12_0 dX7_told_12 (by decide) (by decide) rfl (by decide) ?_
      refine go_aload_n (q := 0) dX7_told_72 rfl rfl ?_
      refine go_iload_n (q := 1) dX7_told_73 rfl rfl ?_
      refine go_iload_n (q := 2) dX7_told_74 rfl rfl ?_
      refine go_cVI (As := [aI x1, aI x2]) (st := []) (r := 24) (i := 0) mv_X7_of dX7_told_75 ml_X7_94 (hr_Kp (Nat.le_refl d)) rfl rfl (mM (by decide) (by decide) rfl) rfl rfl (Nat.le_of_ble_eq_true rfl) h (fun x_4 V_3 h => ?_)
      exact go_iret rfl dX7_told_78 h
    by_cases c12_1 : x2 = 1
    · have h := h.2.1 c12_1
      refine go_tabC (z := 1) (off := 60) (tgt := 72) c12_1 dX7_told_12 (by decide) (by decide) rfl (by decide) ?_
      refine go_aload_n (q := 0) dX7_told_72 rfl rfl ?_
      refine go_iload_n (q := 1) dX7_told_73 rfl rfl ?_
      refine go_iload_n (q := 2) dX7_told_74 rfl rfl ?_
      refine go_cVI (As := [aI x1, aI x2]) (st := []) (r := 24) (i := 0) mv_X7_of dX7_told_75 ml_X7_94 (hr_Kp (Nat.le_refl d)) rfl rfl (mM (by decide) (by decide) rfl) rfl rfl (Nat.le_of_ble_eq_true rfl) h (fun x_6 V_5 h => ?_)
      exact go_iret rfl dX7_told_78 h
    by_cases c12_2 : x2 = 2
    · have h := h.2.2.1 c12_2
      refine go_tabC (z := 2) (off := 60) (tgt := 72) c12_2 dX7_told_12 (by decide) (by decide) rfl (by decide) ?_
      refine go_aload_n (q := 0) dX7_told_72 rfl rfl ?_
      refine go_iload_n (q := 1) dX7_told_73 rfl rfl ?_
      refine go_iload_n (q := 2) dX7_told_74 rfl rfl ?_
      refine go_cVI (As := [aI x1, aI x2]) (st := []) (r := 24) (i := 0) mv_X7_of dX7_told_75 ml_X7_94 (hr_Kp (Nat.le_refl d)) rfl rfl (mM (by decide) (by decide) rfl) rfl rfl (Nat.le_of_ble_eq_true rfl) h (fun x_8 V_7 h => ?_)
      exact go_iret rfl dX7_told_78 h
    by_cases c12_3 : x2 = 3
    · have h := h.2.2.2.1 c12_3
      refine go_tabC (z := 3) (off := 60) (tgt := 72) c12_3 dX7_told_12 (by decide) (by decide) rfl (by decide) ?_
      refine go_aload_n (q := 0) dX7_told_72 rfl rfl ?_
      refine go_iload_n (q := 1) dX7_told_73 rfl rfl ?_
      refine go_iload_n (q := 2) dX7_told_74 rfl rfl ?_
      refine go_cVI (As := [aI x1, aI x2]) (st := []) (r := 24) (i := 0) mv_X7_of dX7_told_75 ml_X7_94 (hr_Kp (Nat.le_refl d)) rfl rfl (mM (by decide) (by decide) rfl) rfl rfl (Nat.le_of_ble_eq_true rfl) h (fun x_10 V_9 h => ?_)
      exact go_iret rfl dX7_told_78 h
    by_cases c12_4 : x2 = 4
    · have h := h.2.2.2.2.1 c12_4
      refine go_tabC (z := 4) (off := 60) (tgt := 72) c12_4 dX7_told_12 (by decide) (by decide) rfl (by decide) ?_
      refine go_aload_n (q := 0) dX7_told_72 rfl rfl ?_
      refine go_iload_n (q := 1) dX7_told_73 rfl rfl ?_
      refine go_iload_n (q := 2) dX7_told_74 rfl rfl ?_
      refine go_cVI (As := [aI x1, aI x2]) (st := []) (r := 24) (i := 0) mv_X7_of dX7_told_75 ml_X7_94 (hr_Kp (Nat.le_refl d)) rfl rfl (mM (by decide) (by decide) rfl) rfl rfl (Nat.le_of_ble_eq_true rfl) h (fun x_12 V_11 h => ?_)
      exact go_iret rfl dX7_told_78 h
    by_cases c12_5 : x2 = 5
    · have h := h.2.2.2.2.2.1 c12_5
      refine go_tabC (z := 5) (off := 60) (tgt := 72) c12_5 dX7_told_12 (by decide) (by decide) rfl (by decide) ?_
      refine go_aload_n (q := 0) dX7_told_72 rfl rfl ?_
      refine go_iload_n (q := 1) dX7_told_73 rfl rfl ?_
      refine go_iload_n (q := 2) dX7_told_74 rfl rfl ?_
      refine go_cVI (As := [aI x1, aI x2]) (st := []) (r := 24) (i := 0) mv_X7_of dX7_told_75 ml_X7_94 (hr_Kp (Nat.le_refl d)) rfl rfl (mM (by decide) (by decide) rfl) rfl rfl (Nat.le_of_ble_eq_true rfl) h (fun x_14 V_13 h => ?_)
      exact go_iret rfl dX7_told_78 h
    by_cases c12_6 : x2 = 6
    · have h := h.2.2.2.2.2.2.1 c12_6
      refine go_tabC (z := 6) (off := 67) (tgt := 79) c12_6 dX7_told_12 (by decide) (by decide) rfl (by decide) ?_
      refine go_aload_n (q := 0) dX7_told_79 rfl rfl ?_
      refine go_iload_n (q := 1) dX7_told_80 rfl rfl ?_
      refine go_cVI (As := [aI x1]) (st := []) (r := 24) (i := 0) mv_X7_warmthOf dX7_told_81 ml_X7_97 (hr_Kp (Nat.le_refl d)) rfl rfl (mM (by decide) (by decide) rfl) rfl rfl (Nat.le_of_ble_eq_true rfl) h (fun x_16 V_15 h => ?_)
      exact go_iret rfl dX7_told_84 h
    by_cases c12_7 : x2 = 7
    · have h := h.2.2.2.2.2.2.2.1 c12_7
      refine go_tabC (z := 7) (off := 73) (tgt := 85) c12_7 dX7_told_12 (by decide) (by decide) rfl (by decide) ?_
      refine go_aload_n (q := 0) dX7_told_85 rfl rfl ?_
      refine go_iload_n (q := 1) dX7_told_86 rfl rfl ?_
      refine go_cVI (As := [aI x1]) (st := []) (r := 24) (i := 0) mv_X7_meltsOf dX7_told_87 ml_X7_115 (hr_Kp (Nat.le_refl d)) rfl rfl (mM (by decide) (by decide) rfl) rfl rfl (Nat.le_of_ble_eq_true rfl) h (fun x_18 V_17 h => ?_)
      exact go_iret rfl dX7_told_90 h
    by_cases c12_8 : x2 = 8
    · have h := h.2.2.2.2.2.2.2.2.1 c12_8
      refine go_tabC (z := 8) (off := 79) (tgt := 91) c12_8 dX7_told_12 (by decide) (by decide) rfl (by decide) ?_
      refine go_aload_n (q := 0) dX7_told_91 rfl rfl ?_
      refine go_iload_n (q := 1) dX7_told_92 rfl rfl ?_
      refine go_cVI (As := [aI x1]) (st := []) (r := 24) (i := 0) mv_X7_bearsOf dX7_told_93 ml_X7_118 (hr_Kp (Nat.le_refl d)) rfl rfl (mM (by decide) (by decide) rfl) rfl rfl (Nat.le_of_ble_eq_true rfl) h (fun x_20 V_19 h => ?_)
      exact go_iret rfl dX7_told_96 h
    by_cases c12_9 : x2 = 9
    · have h := h.2.2.2.2.2.2.2.2.2.1 c12_9
      refine go_tabC (z := 9) (off := 85) (tgt := 97) c12_9 dX7_told_12 (by decide) (by decide) rfl (by decide) ?_
      refine go_aload_n (q := 0) dX7_told_97 rfl rfl ?_
      refine go_iload_n (q := 1) dX7_told_98 rfl rfl ?_
      refine go_cVI (As := [aI x1]) (st := []) (r := 24) (i := 0) mv_X7_owns dX7_told_99 ml_X7_121 (hr_Kp (Nat.le_refl d)) rfl rfl (mM (by decide) (by decide) rfl) rfl rfl (Nat.le_of_ble_eq_true rfl) h (fun x_22 V_21 h => ?_)
      refine go_if_eq (tgt := 109) dX7_told_102 (by decide) (fun c_23 => ?_) (fun c_23 => ?_)
      · have h := h.1 c_23
        refine go_iconst (v := 0) dX7_told_109 (by decide) ?_
        exact go_iret rfl dX7_told_110 h
      · have h := h.2 c_23
        refine go_iconst (v := 1) dX7_told_105 (by decide) ?_
        refine go_goto (tgt := 110) dX7_told_106 (by decide) ?_
        exact go_iret rfl dX7_told_110 h
    by_cases c12_10 : x2 = 10
    · have h := h.2.2.2.2.2.2.2.2.2.2.1 c12_10
      refine go_tabC (z := 10) (off := 99) (tgt := 111) c12_10 dX7_told_12 (by decide) (by decide) rfl (by decide) ?_
      refine go_aload_n (q := 0) dX7_told_111 rfl rfl ?_
      refine go_iload_n (q := 1) dX7_told_112 rfl rfl ?_
      refine go_cVI (As := [aI x1]) (st := []) (r := 24) (i := 0) mv_X7_worthOf dX7_told_113 ml_X7_124 (hr_Kp (Nat.le_refl d)) rfl rfl (mM (by decide) (by decide) rfl) rfl rfl (Nat.le_of_ble_eq_true rfl) h (fun x_25 V_24 h => ?_)
      exact go_iret rfl dX7_told_116 h
    have h := h.2.2.2.2.2.2.2.2.2.2.2 ⟨c12_0, c12_1, c12_2, c12_3, c12_4, c12_5, c12_6, c12_7, c12_8, c12_9, c12_10⟩
    have q_c12_0 := lv_neT c12_0 (show (0 : Int32).toInt = 0 from rfl)
    have q_c12_1 := lv_neT c12_1 (show (1 : Int32).toInt = 1 from rfl)
    have q_c12_2 := lv_neT c12_2 (show (2 : Int32).toInt = 2 from rfl)
    have q_c12_3 := lv_neT c12_3 (show (3 : Int32).toInt = 3 from rfl)
    have q_c12_4 := lv_neT c12_4 (show (4 : Int32).toInt = 4 from rfl)
    have q_c12_5 := lv_neT c12_5 (show (5 : Int32).toInt = 5 from rfl)
    have q_c12_6 := lv_neT c12_6 (show (6 : Int32).toInt = 6 from rfl)
    have q_c12_7 := lv_neT c12_7 (show (7 : Int32).toInt = 7 from rfl)
    have q_c12_8 := lv_neT c12_8 (show (8 : Int32).toInt = 8 from rfl)
    have q_c12_9 := lv_neT c12_9 (show (9 : Int32).toInt = 9 from rfl)
    have q_c12_10 := lv_neT c12_10 (show (10 : Int32).toInt = 10 from rfl)
    refine go_tabOut (tgt := 117) dX7_told_12 (by omega) (by decide) ?_
    refine go_ldc dX7_told_117 ct_X7_84 ?_
    exact go_iret rfl dX7_told_119 h
  · have h := h.2 c_26
    refine go_ldc dX7_told_8 ct_X7_84 ?_
    exact go_iret rfl dX7_told_10 h
theorem clX7_told {d : Nat} {P : Option AV → Mem → Prop}    (x1 : Int32) (x2 : Int32) (V : Mem)  (h : wpX7_told_0 (Cl UM d)   x1 x2 V P) : Cl UM (d + 1) mX7_told [aR 24 0, aI x1, aI x2] V P :=
  cl_of [(0, aR 24 0), (1, aI x1), (2, aI x2)] (by decide) (fun _ => Nat.le_of_ble_eq_true rfl) (fun _ => rfl) (okX7_told_0   x1 x2 V  h)
theorem dX7_isUnder_0 : decode cX7_isUnder 0 = .ok (.iload_n 1, 1) := by decide +kernel
theorem dX7_isUnder_1 : decode cX7_isUnder 1 = .ok (.ifCond .eq 28, 3) := by decide +kernel
theorem dX7_isUnder_4 : decode cX7_isUnder 4 = .ok (.iload_n 0, 1) := by decide +kernel
theorem dX7_isUnder_5 : decode cX7_isUnder 5 = .ok (.iload_n 1, 1) := by decide +kernel
theorem dX7_isUnder_6 : decode cX7_isUnder 6 = .ok (.if_icmp .eq 23, 3) := by decide +kernel
theorem dX7_isUnder_9 : decode cX7_isUnder 9 = .ok (.iload_n 1, 1) := by decide +kernel
theorem dX7_isUnder_10 : decode cX7_isUnder 10 = .ok (.iconst 1, 1) := by decide +kernel
theorem dX7_isUnder_11 : decode cX7_isUnder 11 = .ok (.if_icmp .ne 8, 3) := by decide +kernel
theorem dX7_isUnder_14 : decode cX7_isUnder 14 = .ok (.iload_n 0, 1) := by decide +kernel
theorem dX7_isUnder_15 : decode cX7_isUnder 15 = .ok (.iconst 3, 1) := by decide +kernel
theorem dX7_isUnder_16 : decode cX7_isUnder 16 = .ok (.if_icmp .eq 13, 3) := by decide +kernel
theorem dX7_isUnder_19 : decode cX7_isUnder 19 = .ok (.iload_n 1, 1) := by decide +kernel
theorem dX7_isUnder_20 : decode cX7_isUnder 20 = .ok (.iconst 2, 1) := by decide +kernel
theorem dX7_isUnder_21 : decode cX7_isUnder 21 = .ok (.if_icmp .ne 12, 3) := by decide +kernel
theorem dX7_isUnder_24 : decode cX7_isUnder 24 = .ok (.iload_n 0, 1) := by decide +kernel
theorem dX7_isUnder_25 : decode cX7_isUnder 25 = .ok (.iconst 4, 1) := by decide +kernel
theorem dX7_isUnder_26 : decode cX7_isUnder 26 = .ok (.if_icmp .ne 7, 3) := by decide +kernel
theorem dX7_isUnder_29 : decode cX7_isUnder 29 = .ok (.iconst 1, 1) := by decide +kernel
theorem dX7_isUnder_30 : decode cX7_isUnder 30 = .ok (.goto 4, 3) := by decide +kernel
theorem dX7_isUnder_33 : decode cX7_isUnder 33 = .ok (.iconst 0, 1) := by decide +kernel
theorem dX7_isUnder_34 : decode cX7_isUnder 34 = .ok (.ireturn, 1) := by decide +kernel
def wpX7_isUnder_19 (C : CT)   (x0 : Int32) (x1 : Int32) (V : Mem) (Q : Option AV → Mem → Prop) : Prop :=
  ((¬ x1 = 2 → Q (some (aI 0)) V) ∧ (x1 = 2 → ((¬ x0 = 4 → Q (some (aI 0)) V) ∧ (x0 = 4 → Q (some (aI 1)) V))))
set_option maxRecDepth 10000 in
theorem okX7_isUnder_19 {d : Nat} {P : Option AV → Mem → Prop}    (x0 : Int32) (x1 : Int32)  (V : Mem)  (h : wpX7_isUnder_19 (Cl UM d)   x0 x1 V P) : Gq (Kp (d + 1) mX7_isUnder UM P) UM cX7_isUnder 2 RX7 19 [(0, aI x0), (1, aI x1)] [] V := by
  unfold wpX7_isUnder_19 at h
  refine go_iload_n (q := 1) dX7_isUnder_19 rfl rfl ?_
  refine go_iconst (v := 2) dX7_isUnder_20 (by decide) ?_
  refine go_icmp_ne (tgt := 33) dX7_isUnder_21 (by decide) (fun c_2 => ?_) (fun c_2 => ?_)
  · have h := h.1 c_2
    refine go_iconst (v := 0) dX7_isUnder_33 (by decide) ?_
    exact go_bret rfl dX7_isUnder_34 (by decide) h
  · have h := h.2 c_2
    refine go_iload_n (q := 0) dX7_isUnder_24 rfl rfl ?_
    refine go_iconst (v := 4) dX7_isUnder_25 (by decide) ?_
    refine go_icmp_ne (tgt := 33) dX7_isUnder_26 (by decide) (fun c_1 => ?_) (fun c_1 => ?_)
    · have h := h.1 c_1
      refine go_iconst (v := 0) dX7_isUnder_33 (by decide) ?_
      exact go_bret rfl dX7_isUnder_34 (by decide) h
    · have h := h.2 c_1
      refine go_iconst (v := 1) dX7_isUnder_29 (by decide) ?_
      refine go_goto (tgt := 34) dX7_isUnder_30 (by decide) ?_
      exact go_bret rfl dX7_isUnder_34 (by decide) h
def wpX7_isUnder_0 (C : CT)   (x0 : Int32) (x1 : Int32) (V : Mem) (Q : Option AV → Mem → Prop) : Prop :=
  ((x1 = 0 → Q (some (aI 1)) V) ∧ (¬ x1 = 0 → ((x0 = x1 → Q (some (aI 1)) V) ∧ (¬ x0 = x1 → ((¬ x1 = 1 → wpX7_isUnder_19 C   x0 x1 V Q) ∧ (x1 = 1 → ((x0 = 3 → Q (some (aI 1)) V) ∧ (¬ x0 = 3 → wpX7_isUnder_19 C   x0 x1 V Q))))))))
set_option maxRecDepth 10000 in
theorem okX7_isUnder_0 {d : Nat} {P : Option AV → Mem → Prop}    (x0 : Int32) (x1 : Int32)  (V : Mem)  (h : wpX7_isUnder_0 (Cl UM d)   x0 x1 V P) : Gq (Kp (d + 1) mX7_isUnder UM P) UM cX7_isUnder 2 RX7 0 [(0, aI x0), (1, aI x1)] [] V := by
  unfold wpX7_isUnder_0 at h
  refine go_iload_n (q := 1) dX7_isUnder_0 rfl rfl ?_
  refine go_if_eq (tgt := 29) dX7_isUnder_1 (by decide) (fun c_4 => ?_) (fun c_4 => ?_)
  · have h := h.1 c_4
    refine go_iconst (v := 1) dX7_isUnder_29 (by decide) ?_
    refine go_goto (tgt := 34) dX7_isUnder_30 (by decide) ?_
    exact go_bret rfl dX7_isUnder_34 (by decide) h
  · have h := h.2 c_4
    refine go_iload_n (q := 0) dX7_isUnder_4 rfl rfl ?_
    refine go_iload_n (q := 1) dX7_isUnder_5 rfl rfl ?_
    refine go_icmp_eq (tgt := 29) dX7_isUnder_6 (by decide) (fun c_3 => ?_) (fun c_3 => ?_)
    · have h := h.1 c_3
      refine go_iconst (v := 1) dX7_isUnder_29 (by decide) ?_
      refine go_goto (tgt := 34) dX7_isUnder_30 (by decide) ?_
      exact go_bret rfl dX7_isUnder_34 (by decide) h
    · have h := h.2 c_3
      refine go_iload_n (q := 1) dX7_isUnder_9 rfl rfl ?_
      refine go_iconst (v := 1) dX7_isUnder_10 (by decide) ?_
      refine go_icmp_ne (tgt := 19) dX7_isUnder_11 (by decide) (fun c_2 => ?_) (fun c_2 => ?_)
      · have h := h.1 c_2
        exact okX7_isUnder_19   x0 x1  V  h
      · have h := h.2 c_2
        refine go_iload_n (q := 0) dX7_isUnder_14 rfl rfl ?_
        refine go_iconst (v := 3) dX7_isUnder_15 (by decide) ?_
        refine go_icmp_eq (tgt := 29) dX7_isUnder_16 (by decide) (fun c_1 => ?_) (fun c_1 => ?_)
        · have h := h.1 c_1
          refine go_iconst (v := 1) dX7_isUnder_29 (by decide) ?_
          refine go_goto (tgt := 34) dX7_isUnder_30 (by decide) ?_
          exact go_bret rfl dX7_isUnder_34 (by decide) h
        · have h := h.2 c_1
          exact okX7_isUnder_19   x0 x1  V  h
theorem clX7_isUnder {d : Nat} {P : Option AV → Mem → Prop}    (x0 : Int32) (x1 : Int32) (V : Mem)  (h : wpX7_isUnder_0 (Cl UM d)   x0 x1 V P) : Cl UM (d + 1) mX7_isUnder [aI x0, aI x1] V P :=
  cl_of [(0, aI x0), (1, aI x1)] (by decide) (fun _ => Nat.le_of_ble_eq_true rfl) (fun _ => rfl) (okX7_isUnder_0   x0 x1 V  h)
theorem dX7_as_0 : decode cX7_as 0 = .ok (.aload_n 0, 1) := by decide +kernel
theorem dX7_as_1 : decode cX7_as 1 = .ok (.iload_n 1, 1) := by decide +kernel
theorem dX7_as_2 : decode cX7_as 2 = .ok (.invokevirtual 111, 3) := by decide +kernel
theorem dX7_as_5 : decode cX7_as 5 = .ok (.ifCond .eq 12, 3) := by decide +kernel
theorem dX7_as_8 : decode cX7_as 8 = .ok (.iload_n 2, 1) := by decide +kernel
theorem dX7_as_9 : decode cX7_as 9 = .ok (.iconst 0, 1) := by decide +kernel
theorem dX7_as_10 : decode cX7_as 10 = .ok (.iconst 5, 1) := by decide +kernel
theorem dX7_as_11 : decode cX7_as 11 = .ok (.invokestatic 76, 3) := by decide +kernel
theorem dX7_as_14 : decode cX7_as 14 = .ok (.ifCond .ne 6, 3) := by decide +kernel
theorem dX7_as_17 : decode cX7_as 17 = .ok (.ldc 84, 2) := by decide +kernel
theorem dX7_as_19 : decode cX7_as 19 = .ok (.ireturn, 1) := by decide +kernel
theorem dX7_as_20 : decode cX7_as 20 = .ok (.aload_n 0, 1) := by decide +kernel
theorem dX7_as_21 : decode cX7_as 21 = .ok (.iload_n 1, 1) := by decide +kernel
theorem dX7_as_22 : decode cX7_as 22 = .ok (.iconst 0, 1) := by decide +kernel
theorem dX7_as_23 : decode cX7_as 23 = .ok (.invokevirtual 94, 3) := by decide +kernel
theorem dX7_as_26 : decode cX7_as 26 = .ok (.iload_n 2, 1) := by decide +kernel
theorem dX7_as_27 : decode cX7_as 27 = .ok (.invokestatic 127, 3) := by decide +kernel
theorem dX7_as_30 : decode cX7_as 30 = .ok (.ifCond .eq 12, 3) := by decide +kernel
theorem dX7_as_33 : decode cX7_as 33 = .ok (.aload_n 0, 1) := by decide +kernel
theorem dX7_as_34 : decode cX7_as 34 = .ok (.iload_n 1, 1) := by decide +kernel
theorem dX7_as_35 : decode cX7_as 35 = .ok (.iconst 1, 1) := by decide +kernel
theorem dX7_as_36 : decode cX7_as 36 = .ok (.invokevirtual 94, 3) := by decide +kernel
theorem dX7_as_39 : decode cX7_as 39 = .ok (.goto 5, 3) := by decide +kernel
theorem dX7_as_42 : decode cX7_as 42 = .ok (.ldc 131, 2) := by decide +kernel
theorem dX7_as_44 : decode cX7_as 44 = .ok (.ireturn, 1) := by decide +kernel
def wpX7_as_0 (C : CT)   (x1 : Int32) (x2 : Int32) (V : Mem) (Q : Option AV → Mem → Prop) : Prop :=
  (cI C mX7_isRoof [aR 24 0, aI x1] V (fun x_2 V_1 => ((x_2 = 0 → Q (some (aI (-1000000001))) V_1) ∧ (¬ x_2 = 0 → (cI C mX7_in [aI x2, aI 0, aI 5] V_1 (fun x_4 V_3 => ((¬ x_4 = 0 → (cI C mX7_of [aR 24 0, aI x1, aI 0] V_3 (fun x_6 V_5 => (cI C mX7_isUnder [aI x_6, aI x2] V_5 (fun x_8 V_7 => ((x_8 = 0 → Q (some (aI (-1000000012))) V_7) ∧ (¬ x_8 = 0 → (cI C mX7_of [aR 24 0, aI x1, aI 1] V_7 (fun x_10 V_9 => Q (some (aI x_10)) V_9))))))))) ∧ (x_4 = 0 → Q (some (aI (-1000000001))) V_3))))))))
set_option maxRecDepth 10000 in
theorem okX7_as_0 {d : Nat} {P : Option AV → Mem → Prop}    (x1 : Int32) (x2 : Int32)  (V : Mem)  (h : wpX7_as_0 (Cl UM d)   x1 x2 V P) : Gq (Kp (d + 1) mX7_as UM P) UM cX7_as 3 RX7 0 [(0, aR 24 0), (1, aI x1), (2, aI x2)] [] V := by
  unfold wpX7_as_0 at h
  refine go_aload_n (q := 0) dX7_as_0 rfl rfl ?_
  refine go_iload_n (q := 1) dX7_as_1 rfl rfl ?_
  refine go_cVI (As := [aI x1]) (st := []) (r := 24) (i := 0) mv_X7_isRoof dX7_as_2 ml_X7_111 (hr_Kp (Nat.le_refl d)) rfl rfl (mM (by decide) (by decide) rfl) rfl rfl (Nat.le_of_ble_eq_true rfl) h (fun x_2 V_1 h => ?_)
  refine go_if_eq (tgt := 17) dX7_as_5 (by decide) (fun c_13 => ?_) (fun c_13 => ?_)
  · have h := h.1 c_13
    refine go_ldc dX7_as_17 ct_X7_84 ?_
    exact go_iret rfl dX7_as_19 h
  · have h := h.2 c_13
    refine go_iload_n (q := 2) dX7_as_8 rfl rfl ?_
    refine go_iconst (v := 0) dX7_as_9 (by decide) ?_
    refine go_iconst (v := 5) dX7_as_10 (by decide) ?_
    refine go_cSI (As := [aI x2, aI 0, aI 5]) (st := []) ms_X7_in dX7_as_11 ml_X7_76 (hr_Kp (Nat.le_refl d)) rfl rfl (Nat.le_of_ble_eq_true rfl) h (fun x_4 V_3 h => ?_)
    refine go_if_ne (tgt := 20) dX7_as_14 (by decide) (fun c_12 => ?_) (fun c_12 => ?_)
    · have h := h.1 c_12
      refine go_aload_n (q := 0) dX7_as_20 rfl rfl ?_
      refine go_iload_n (q := 1) dX7_as_21 rfl rfl ?_
      refine go_iconst (v := 0) dX7_as_22 (by decide) ?_
      refine go_cVI (As := [aI x1, aI 0]) (st := []) (r := 24) (i := 0) mv_X7_of dX7_as_23 ml_X7_94 (hr_Kp (Nat.le_refl d)) rfl rfl (mM (by decide) (by decide) rfl) rfl rfl (Nat.le_of_ble_eq_true rfl) h (fun x_6 V_5 h => ?_)
      refine go_iload_n (q := 2) dX7_as_26 rfl rfl ?_
      refine go_cSI (As := [aI x_6, aI x2]) (st := []) ms_X7_isUnder dX7_as_27 ml_X7_127 (hr_Kp (Nat.le_refl d)) rfl rfl (Nat.le_of_ble_eq_true rfl) h (fun x_8 V_7 h => ?_)
      refine go_if_eq (tgt := 42) dX7_as_30 (by decide) (fun c_11 => ?_) (fun c_11 => ?_)
      · have h := h.1 c_11
        refine go_ldc dX7_as_42 ct_X7_131 ?_
        exact go_iret rfl dX7_as_44 h
      · have h := h.2 c_11
        refine go_aload_n (q := 0) dX7_as_33 rfl rfl ?_
        refine go_iload_n (q := 1) dX7_as_34 rfl rfl ?_
        refine go_iconst (v := 1) dX7_as_35 (by decide) ?_
        refine go_cVI (As := [aI x1, aI 1]) (st := []) (r := 24) (i := 0) mv_X7_of dX7_as_36 ml_X7_94 (hr_Kp (Nat.le_refl d)) rfl rfl (mM (by decide) (by decide) rfl) rfl rfl (Nat.le_of_ble_eq_true rfl) h (fun x_10 V_9 h => ?_)
        refine go_goto (tgt := 44) dX7_as_39 (by decide) ?_
        exact go_iret rfl dX7_as_44 h
    · have h := h.2 c_12
      refine go_ldc dX7_as_17 ct_X7_84 ?_
      exact go_iret rfl dX7_as_19 h
theorem clX7_as {d : Nat} {P : Option AV → Mem → Prop}    (x1 : Int32) (x2 : Int32) (V : Mem)  (h : wpX7_as_0 (Cl UM d)   x1 x2 V P) : Cl UM (d + 1) mX7_as [aR 24 0, aI x1, aI x2] V P :=
  cl_of [(0, aR 24 0), (1, aI x1), (2, aI x2)] (by decide) (fun _ => Nat.le_of_ble_eq_true rfl) (fun _ => rfl) (okX7_as_0   x1 x2 V  h)
theorem dX7_turns_0 : decode cX7_turns 0 = .ok (.aload_n 0, 1) := by decide +kernel
theorem dX7_turns_1 : decode cX7_turns 1 = .ok (.iload_n 1, 1) := by decide +kernel
theorem dX7_turns_2 : decode cX7_turns 2 = .ok (.invokevirtual 111, 3) := by decide +kernel
theorem dX7_turns_5 : decode cX7_turns 5 = .ok (.ifCond .eq 27, 3) := by decide +kernel
theorem dX7_turns_8 : decode cX7_turns 8 = .ok (.iload_n 2, 1) := by decide +kernel
theorem dX7_turns_9 : decode cX7_turns 9 = .ok (.iconst 0, 1) := by decide +kernel
theorem dX7_turns_10 : decode cX7_turns 10 = .ok (.iconst 5, 1) := by decide +kernel
theorem dX7_turns_11 : decode cX7_turns 11 = .ok (.invokestatic 76, 3) := by decide +kernel
theorem dX7_turns_14 : decode cX7_turns 14 = .ok (.ifCond .eq 18, 3) := by decide +kernel
theorem dX7_turns_17 : decode cX7_turns 17 = .ok (.aload_n 0, 1) := by decide +kernel
theorem dX7_turns_18 : decode cX7_turns 18 = .ok (.bipush 59, 2) := by decide +kernel
theorem dX7_turns_20 : decode cX7_turns 20 = .ok (.bipush 6, 2) := by decide +kernel
theorem dX7_turns_22 : decode cX7_turns 22 = .ok (.iload_n 1, 1) := by decide +kernel
theorem dX7_turns_23 : decode cX7_turns 23 = .ok (.imul, 1) := by decide +kernel
theorem dX7_turns_24 : decode cX7_turns 24 = .ok (.iadd, 1) := by decide +kernel
theorem dX7_turns_25 : decode cX7_turns 25 = .ok (.iload_n 2, 1) := by decide +kernel
theorem dX7_turns_26 : decode cX7_turns 26 = .ok (.invokevirtual 132, 3) := by decide +kernel
theorem dX7_turns_29 : decode cX7_turns 29 = .ok (.goto 5, 3) := by decide +kernel
theorem dX7_turns_32 : decode cX7_turns 32 = .ok (.ldc 84, 2) := by decide +kernel
theorem dX7_turns_34 : decode cX7_turns 34 = .ok (.ireturn, 1) := by decide +kernel
def wpX7_turns_0 (C : CT)   (x1 : Int32) (x2 : Int32) (V : Mem) (Q : Option AV → Mem → Prop) : Prop :=
  (cI C mX7_isRoof [aR 24 0, aI x1] V (fun x_2 V_1 => ((x_2 = 0 → Q (some (aI (-1000000001))) V_1) ∧ (¬ x_2 = 0 → (cI C mX7_in [aI x2, aI 0, aI 5] V_1 (fun x_4 V_3 => ((x_4 = 0 → Q (some (aI (-1000000001))) V_3) ∧ (¬ x_4 = 0 → (cI C mX7_becomes [aR 24 0, aI (59 + (6 * x1)), aI x2] V_3 (fun x_6 V_5 => Q (some (aI x_6)) V_5))))))))))
set_option maxRecDepth 10000 in
theorem okX7_turns_0 {d : Nat} {P : Option AV → Mem → Prop}    (x1 : Int32) (x2 : Int32)  (V : Mem)  (h : wpX7_turns_0 (Cl UM d)   x1 x2 V P) : Gq (Kp (d + 1) mX7_turns UM P) UM cX7_turns 3 RX7 0 [(0, aR 24 0), (1, aI x1), (2, aI x2)] [] V := by
  unfold wpX7_turns_0 at h
  refine go_aload_n (q := 0) dX7_turns_0 rfl rfl ?_
  refine go_iload_n (q := 1) dX7_turns_1 rfl rfl ?_
  refine go_cVI (As := [aI x1]) (st := []) (r := 24) (i := 0) mv_X7_isRoof dX7_turns_2 ml_X7_111 (hr_Kp (Nat.le_refl d)) rfl rfl (mM (by decide) (by decide) rfl) rfl rfl (Nat.le_of_ble_eq_true rfl) h (fun x_2 V_1 h => ?_)
  refine go_if_eq (tgt := 32) dX7_turns_5 (by decide) (fun c_8 => ?_) (fun c_8 => ?_)
  · have h := h.1 c_8
    refine go_ldc dX7_turns_32 ct_X7_84 ?_
    exact go_iret rfl dX7_turns_34 h
  · have h := h.2 c_8
    refine go_iload_n (q := 2) dX7_turns_8 rfl rfl ?_
    refine go_iconst (v := 0) dX7_turns_9 (by decide) ?_
    refine go_iconst (v := 5) dX7_turns_10 (by decide) ?_
    refine go_cSI (As := [aI x2, aI 0, aI 5]) (st := []) ms_X7_in dX7_turns_11 ml_X7_76 (hr_Kp (Nat.le_refl d)) rfl rfl (Nat.le_of_ble_eq_true rfl) h (fun x_4 V_3 h => ?_)
    refine go_if_eq (tgt := 32) dX7_turns_14 (by decide) (fun c_7 => ?_) (fun c_7 => ?_)
    · have h := h.1 c_7
      refine go_ldc dX7_turns_32 ct_X7_84 ?_
      exact go_iret rfl dX7_turns_34 h
    · have h := h.2 c_7
      refine go_aload_n (q := 0) dX7_turns_17 rfl rfl ?_
      refine go_bipush (v := 59) dX7_turns_18 (by decide) ?_
      refine go_bipush (v := 6) dX7_turns_20 (by decide) ?_
      refine go_iload_n (q := 1) dX7_turns_22 rfl rfl ?_
      refine go_imul dX7_turns_23 ?_
      refine go_iadd dX7_turns_24 ?_
      refine go_iload_n (q := 2) dX7_turns_25 rfl rfl ?_
      refine go_cVI (As := [aI (59 + (6 * x1)), aI x2]) (st := []) (r := 24) (i := 0) mv_X7_becomes dX7_turns_26 ml_X7_132 (hr_Kp (Nat.le_refl d)) rfl rfl (mM (by decide) (by decide) rfl) rfl rfl (Nat.le_of_ble_eq_true rfl) h (fun x_6 V_5 h => ?_)
      refine go_goto (tgt := 34) dX7_turns_29 (by decide) ?_
      exact go_iret rfl dX7_turns_34 h
theorem clX7_turns {d : Nat} {P : Option AV → Mem → Prop}    (x1 : Int32) (x2 : Int32) (V : Mem)  (h : wpX7_turns_0 (Cl UM d)   x1 x2 V P) : Cl UM (d + 1) mX7_turns [aR 24 0, aI x1, aI x2] V P :=
  cl_of [(0, aR 24 0), (1, aI x1), (2, aI x2)] (by decide) (fun _ => Nat.le_of_ble_eq_true rfl) (fun _ => rfl) (okX7_turns_0   x1 x2 V  h)
theorem dX7_rains_0 : decode cX7_rains 0 = .ok (.aload_n 0, 1) := by decide +kernel
theorem dX7_rains_1 : decode cX7_rains 1 = .ok (.iload_n 1, 1) := by decide +kernel
theorem dX7_rains_2 : decode cX7_rains 2 = .ok (.iconst 4, 1) := by decide +kernel
theorem dX7_rains_3 : decode cX7_rains 3 = .ok (.invokevirtual 94, 3) := by decide +kernel
theorem dX7_rains_6 : decode cX7_rains 6 = .ok (.iload_n 2, 1) := by decide +kernel
theorem dX7_rains_7 : decode cX7_rains 7 = .ok (.iadd, 1) := by decide +kernel
theorem dX7_rains_8 : decode cX7_rains 8 = .ok (.istore_n 3, 1) := by decide +kernel
theorem dX7_rains_9 : decode cX7_rains 9 = .ok (.aload_n 0, 1) := by decide +kernel
theorem dX7_rains_10 : decode cX7_rains 10 = .ok (.iload_n 1, 1) := by decide +kernel
theorem dX7_rains_11 : decode cX7_rains 11 = .ok (.iconst 4, 1) := by decide +kernel
theorem dX7_rains_12 : decode cX7_rains 12 = .ok (.iload_n 3, 1) := by decide +kernel
theorem dX7_rains_13 : decode cX7_rains 13 = .ok (.iconst 0, 1) := by decide +kernel
theorem dX7_rains_14 : decode cX7_rains 14 = .ok (.aload_n 0, 1) := by decide +kernel
theorem dX7_rains_15 : decode cX7_rains 15 = .ok (.iload_n 1, 1) := by decide +kernel
theorem dX7_rains_16 : decode cX7_rains 16 = .ok (.iconst 3, 1) := by decide +kernel
theorem dX7_rains_17 : decode cX7_rains 17 = .ok (.invokevirtual 94, 3) := by decide +kernel
theorem dX7_rains_20 : decode cX7_rains 20 = .ok (.invokestatic 104, 3) := by decide +kernel
theorem dX7_rains_23 : decode cX7_rains 23 = .ok (.invokevirtual 80, 3) := by decide +kernel
theorem dX7_rains_26 : decode cX7_rains 26 = .ok (.aload_n 0, 1) := by decide +kernel
theorem dX7_rains_27 : decode cX7_rains 27 = .ok (.getfield 9, 3) := by decide +kernel
theorem dX7_rains_30 : decode cX7_rains 30 = .ok (.bipush 7, 2) := by decide +kernel
theorem dX7_rains_32 : decode cX7_rains 32 = .ok (.dup2, 1) := by decide +kernel
theorem dX7_rains_33 : decode cX7_rains 33 = .ok (.iaload, 1) := by decide +kernel
theorem dX7_rains_34 : decode cX7_rains 34 = .ok (.iload_n 3, 1) := by decide +kernel
theorem dX7_rains_35 : decode cX7_rains 35 = .ok (.aload_n 0, 1) := by decide +kernel
theorem dX7_rains_36 : decode cX7_rains 36 = .ok (.iload_n 1, 1) := by decide +kernel
theorem dX7_rains_37 : decode cX7_rains 37 = .ok (.iconst 4, 1) := by decide +kernel
theorem dX7_rains_38 : decode cX7_rains 38 = .ok (.invokevirtual 94, 3) := by decide +kernel
theorem dX7_rains_41 : decode cX7_rains 41 = .ok (.isub, 1) := by decide +kernel
theorem dX7_rains_42 : decode cX7_rains 42 = .ok (.iadd, 1) := by decide +kernel
theorem dX7_rains_43 : decode cX7_rains 43 = .ok (.iastore, 1) := by decide +kernel
theorem dX7_rains_44 : decode cX7_rains 44 = .ok (.return_, 1) := by decide +kernel
def wpX7_rains_0 (C : CT)   (x1 : Int32) (x2 : Int32) (V : Mem) (Q : Option AV → Mem → Prop) : Prop :=
  (cI C mX7_of [aR 24 0, aI x1, aI 4] V (fun x_2 V_1 => (∀ z_3 : Int32, z_3 = (x_2 + x2) → (cI C mX7_of [aR 24 0, aI x1, aI 3] V_1 (fun x_5 V_4 => (cI C mX7_within [aI z_3, aI 0, aI x_5] V_4 (fun x_7 V_6 => (cV C mX7_put [aR 24 0, aI x1, aI 4, aI x_7] V_6 (fun V_8 => (cI C mX7_of [aR 24 0, aI x1, aI 4] V_8 (fun x_10 V_9 => (∀ V_11 : Mem, V_11 = mu V_9 25 0 7 ((V_8 25 0 7) + (z_3 - x_10)) → Q none V_11))))))))))))
set_option maxRecDepth 10000 in
theorem okX7_rains_0 {d : Nat} {P : Option AV → Mem → Prop}    (x1 : Int32) (x2 : Int32)  (V : Mem)  (h : wpX7_rains_0 (Cl UM d)   x1 x2 V P) : Gq (Kp (d + 1) mX7_rains UM P) UM cX7_rains 4 RX7 0 [(0, aR 24 0), (1, aI x1), (2, aI x2)] [] V := by
  unfold wpX7_rains_0 at h
  refine go_aload_n (q := 0) dX7_rains_0 rfl rfl ?_
  refine go_iload_n (q := 1) dX7_rains_1 rfl rfl ?_
  refine go_iconst (v := 4) dX7_rains_2 (by decide) ?_
  refine go_cVI (As := [aI x1, aI 4]) (st := []) (r := 24) (i := 0) mv_X7_of dX7_rains_3 ml_X7_94 (hr_Kp (Nat.le_refl d)) rfl rfl (mM (by decide) (by decide) rfl) rfl rfl (Nat.le_of_ble_eq_true rfl) h (fun x_2 V_1 h => ?_)
  refine go_iload_n (q := 2) dX7_rains_6 rfl rfl ?_
  refine go_iadd dX7_rains_7 ?_
  refine nmI (fun z_3 e_z_3 => ?_)
  have h := h z_3 e_z_3
  refine go_istore_n (al1 := [(3, aI z_3), (0, aR 24 0), (1, aI x1), (2, aI x2)]) dX7_rains_8 rfl (by decide) rfl ?_
  refine go_aload_n (q := 1) dX7_rains_9 rfl rfl ?_
  refine go_iload_n (q := 2) dX7_rains_10 rfl rfl ?_
  refine go_iconst (v := 4) dX7_rains_11 (by decide) ?_
  refine go_iload_n (q := 0) dX7_rains_12 rfl rfl ?_
  refine go_iconst (v := 0) dX7_rains_13 (by decide) ?_
  refine go_aload_n (q := 1) dX7_rains_14 rfl rfl ?_
  refine go_iload_n (q := 2) dX7_rains_15 rfl rfl ?_
  refine go_iconst (v := 3) dX7_rains_16 (by decide) ?_
  refine go_cVI (As := [aI x1, aI 3]) (st := [aI 0, aI z_3, aI 4, aI x1, aR 24 0]) (r := 24) (i := 0) mv_X7_of dX7_rains_17 ml_X7_94 (hr_Kp (Nat.le_refl d)) rfl rfl (mM (by decide) (by decide) rfl) rfl rfl (Nat.le_of_ble_eq_true rfl) h (fun x_5 V_4 h => ?_)
  refine go_cSI (As := [aI z_3, aI 0, aI x_5]) (st := [aI 4, aI x1, aR 24 0]) ms_X7_within dX7_rains_20 ml_X7_104 (hr_Kp (Nat.le_refl d)) rfl rfl (Nat.le_of_ble_eq_true rfl) h (fun x_7 V_6 h => ?_)
  refine go_cVV (As := [aI x1, aI 4, aI x_7]) (st := []) (r := 24) (i := 0) mv_X7_put dX7_rains_23 ml_X7_80 (hr_Kp (Nat.le_refl d)) rfl rfl (mM (by decide) (by decide) rfl) rfl rfl (Nat.le_of_ble_eq_true rfl) h (fun V_8 h => ?_)
  refine go_aload_n (q := 1) dX7_rains_26 rfl rfl ?_
  refine go_getr fg_X7_9 dX7_rains_27 (mM (by decide) (by decide) rfl) ?_
  refine go_bipush (v := 7) dX7_rains_30 (by decide) ?_
  refine go_dup2 dX7_rains_32 rfl rfl ?_
  refine go_iald (r := 25) (n := 1479) (j := 7) rfl (by decide) dX7_rains_33 (mM (by decide) (by decide) rfl) (by decide) (by decide) ?_
  refine go_iload_n (q := 0) dX7_rains_34 rfl rfl ?_
  refine go_aload_n (q := 1) dX7_rains_35 rfl rfl ?_
  refine go_iload_n (q := 2) dX7_rains_36 rfl rfl ?_
  refine go_iconst (v := 4) dX7_rains_37 (by decide) ?_
  refine go_cVI (As := [aI x1, aI 4]) (st := [aI z_3, aI (V_8 25 0 7), aI 7, aR 25 0]) (r := 24) (i := 0) mv_X7_of dX7_rains_38 ml_X7_94 (hr_Kp (Nat.le_refl d)) rfl rfl (mM (by decide) (by decide) rfl) rfl rfl (Nat.le_of_ble_eq_true rfl) h (fun x_10 V_9 h => ?_)
  refine go_isub dX7_rains_41 ?_
  refine go_iadd dX7_rains_42 ?_
  refine go_iast (r := 25) (n := 1479) (j := 7) rfl (by decide) dX7_rains_43 (mM (by decide) (by decide) rfl) (by decide) (by decide) ?_
  refine nmV (fun V_11 e_V_11 => ?_)
  have h := h V_11 e_V_11
  exact go_vret rfl dX7_rains_44 h
theorem clX7_rains {d : Nat} {P : Option AV → Mem → Prop}    (x1 : Int32) (x2 : Int32) (V : Mem)  (h : wpX7_rains_0 (Cl UM d)   x1 x2 V P) : Cl UM (d + 1) mX7_rains [aR 24 0, aI x1, aI x2] V P :=
  cl_of [(0, aR 24 0), (1, aI x1), (2, aI x2)] (by decide) (fun _ => Nat.le_of_ble_eq_true rfl) (fun _ => rfl) (okX7_rains_0   x1 x2 V  h)
theorem dX7_set_0 : decode cX7_set 0 = .ok (.aload_n 0, 1) := by decide +kernel
theorem dX7_set_1 : decode cX7_set 1 = .ok (.iload_n 1, 1) := by decide +kernel
theorem dX7_set_2 : decode cX7_set 2 = .ok (.invokevirtual 111, 3) := by decide +kernel
theorem dX7_set_5 : decode cX7_set 5 = .ok (.ifCond .eq 42, 3) := by decide +kernel
theorem dX7_set_8 : decode cX7_set 8 = .ok (.iload_n 2, 1) := by decide +kernel
theorem dX7_set_9 : decode cX7_set 9 = .ok (.iconst 1, 1) := by decide +kernel
theorem dX7_set_10 : decode cX7_set 10 = .ok (.iconst 3, 1) := by decide +kernel
theorem dX7_set_11 : decode cX7_set 11 = .ok (.invokestatic 76, 3) := by decide +kernel
theorem dX7_set_14 : decode cX7_set 14 = .ok (.ifCond .eq 33, 3) := by decide +kernel
theorem dX7_set_17 : decode cX7_set 17 = .ok (.iload_n 3, 1) := by decide +kernel
theorem dX7_set_18 : decode cX7_set 18 = .ok (.iload_n 2, 1) := by decide +kernel
theorem dX7_set_19 : decode cX7_set 19 = .ok (.iconst 1, 1) := by decide +kernel
theorem dX7_set_20 : decode cX7_set 20 = .ok (.if_icmp .ne 7, 3) := by decide +kernel
theorem dX7_set_23 : decode cX7_set 23 = .ok (.iconst 1, 1) := by decide +kernel
theorem dX7_set_24 : decode cX7_set 24 = .ok (.goto 4, 3) := by decide +kernel
theorem dX7_set_27 : decode cX7_set 27 = .ok (.iconst 0, 1) := by decide +kernel
theorem dX7_set_28 : decode cX7_set 28 = .ok (.iload_n 2, 1) := by decide +kernel
theorem dX7_set_29 : decode cX7_set 29 = .ok (.iconst 3, 1) := by decide +kernel
theorem dX7_set_30 : decode cX7_set 30 = .ok (.if_icmp .ne 9, 3) := by decide +kernel
theorem dX7_set_33 : decode cX7_set 33 = .ok (.sipush 999, 3) := by decide +kernel
theorem dX7_set_36 : decode cX7_set 36 = .ok (.goto 5, 3) := by decide +kernel
theorem dX7_set_39 : decode cX7_set 39 = .ok (.bipush 9, 2) := by decide +kernel
theorem dX7_set_41 : decode cX7_set 41 = .ok (.invokestatic 76, 3) := by decide +kernel
theorem dX7_set_44 : decode cX7_set 44 = .ok (.ifCond .ne 6, 3) := by decide +kernel
theorem dX7_set_47 : decode cX7_set 47 = .ok (.ldc 84, 2) := by decide +kernel
theorem dX7_set_49 : decode cX7_set 49 = .ok (.ireturn, 1) := by decide +kernel
theorem dX7_set_50 : decode cX7_set 50 = .ok (.aload_n 0, 1) := by decide +kernel
theorem dX7_set_51 : decode cX7_set 51 = .ok (.bipush 59, 2) := by decide +kernel
theorem dX7_set_53 : decode cX7_set 53 = .ok (.bipush 6, 2) := by decide +kernel
theorem dX7_set_55 : decode cX7_set 55 = .ok (.iload_n 1, 1) := by decide +kernel
theorem dX7_set_56 : decode cX7_set 56 = .ok (.imul, 1) := by decide +kernel
theorem dX7_set_57 : decode cX7_set 57 = .ok (.iadd, 1) := by decide +kernel
theorem dX7_set_58 : decode cX7_set 58 = .ok (.iload_n 2, 1) := by decide +kernel
theorem dX7_set_59 : decode cX7_set 59 = .ok (.iadd, 1) := by decide +kernel
theorem dX7_set_60 : decode cX7_set 60 = .ok (.iload_n 3, 1) := by decide +kernel
theorem dX7_set_61 : decode cX7_set 61 = .ok (.invokevirtual 132, 3) := by decide +kernel
theorem dX7_set_64 : decode cX7_set 64 = .ok (.istore 4, 2) := by decide +kernel
theorem dX7_set_66 : decode cX7_set 66 = .ok (.aload_n 0, 1) := by decide +kernel
theorem dX7_set_67 : decode cX7_set 67 = .ok (.iload_n 1, 1) := by decide +kernel
theorem dX7_set_68 : decode cX7_set 68 = .ok (.iconst 0, 1) := by decide +kernel
theorem dX7_set_69 : decode cX7_set 69 = .ok (.invokevirtual 135, 3) := by decide +kernel
theorem dX7_set_72 : decode cX7_set 72 = .ok (.iload 4, 2) := by decide +kernel
theorem dX7_set_74 : decode cX7_set 74 = .ok (.ireturn, 1) := by decide +kernel
def wpX7_set_41 (C : CT)   (x1 : Int32) (x2 : Int32) (x3 : Int32) (s0 : Int32) (s1 : Int32) (s2 : Int32) (V : Mem) (Q : Option AV → Mem → Prop) : Prop :=
  (cI C mX7_in [aI s2, aI s1, aI s0] V (fun x_2 V_1 => ((¬ x_2 = 0 → (cI C mX7_becomes [aR 24 0, aI ((59 + (6 * x1)) + x2), aI x3] V_1 (fun x_4 V_3 => (cV C mX7_rains [aR 24 0, aI x1, aI 0] V_3 (fun V_5 => Q (some (aI x_4)) V_5))))) ∧ (x_2 = 0 → Q (some (aI (-1000000001))) V_1))))
set_option maxRecDepth 10000 in
theorem okX7_set_41 {d : Nat} {P : Option AV → Mem → Prop}    (x1 : Int32) (x2 : Int32) (x3 : Int32) (s0 : Int32) (s1 : Int32) (s2 : Int32)  (V : Mem)  (h : wpX7_set_41 (Cl UM d)   x1 x2 x3 s0 s1 s2 V P) : Gq (Kp (d + 1) mX7_set UM P) UM cX7_set 5 RX7 41 [(0, aR 24 0), (1, aI x1), (2, aI x2), (3, aI x3)] [aI s0, aI s1, aI s2] V := by
  unfold wpX7_set_41 at h
  refine go_cSI (As := [aI s2, aI s1, aI s0]) (st := []) ms_X7_in dX7_set_41 ml_X7_76 (hr_Kp (Nat.le_refl d)) rfl rfl (Nat.le_of_ble_eq_true rfl) h (fun x_2 V_1 h => ?_)
  refine go_if_ne (tgt := 50) dX7_set_44 (by decide) (fun c_6 => ?_) (fun c_6 => ?_)
  · have h := h.1 c_6
    refine go_aload_n (q := 0) dX7_set_50 rfl rfl ?_
    refine go_bipush (v := 59) dX7_set_51 (by decide) ?_
    refine go_bipush (v := 6) dX7_set_53 (by decide) ?_
    refine go_iload_n (q := 1) dX7_set_55 rfl rfl ?_
    refine go_imul dX7_set_56 ?_
    refine go_iadd dX7_set_57 ?_
    refine go_iload_n (q := 2) dX7_set_58 rfl rfl ?_
    refine go_iadd dX7_set_59 ?_
    refine go_iload_n (q := 3) dX7_set_60 rfl rfl ?_
    refine go_cVI (As := [aI ((59 + (6 * x1)) + x2), aI x3]) (st := []) (r := 24) (i := 0) mv_X7_becomes dX7_set_61 ml_X7_132 (hr_Kp (Nat.le_refl d)) rfl rfl (mM (by decide) (by decide) rfl) rfl rfl (Nat.le_of_ble_eq_true rfl) h (fun x_4 V_3 h => ?_)
    refine go_istore (al1 := [(4, aI x_4), (0, aR 24 0), (1, aI x1), (2, aI x2), (3, aI x3)]) dX7_set_64 (by decide) rfl ?_
    refine go_aload_n (q := 1) dX7_set_66 rfl rfl ?_
    refine go_iload_n (q := 2) dX7_set_67 rfl rfl ?_
    refine go_iconst (v := 0) dX7_set_68 (by decide) ?_
    refine go_cVV (As := [aI x1, aI 0]) (st := []) (r := 24) (i := 0) mv_X7_rains dX7_set_69 ml_X7_135 (hr_Kp (Nat.le_refl d)) rfl rfl (mM (by decide) (by decide) rfl) rfl rfl (Nat.le_of_ble_eq_true rfl) h (fun V_5 h => ?_)
    refine go_iload (q := 0) dX7_set_72 rfl ?_
    exact go_iret rfl dX7_set_74 h
  · have h := h.2 c_6
    refine go_ldc dX7_set_47 ct_X7_84 ?_
    exact go_iret rfl dX7_set_49 h
def wpX7_set_28 (C : CT)   (x1 : Int32) (x2 : Int32) (x3 : Int32) (s0 : Int32) (s1 : Int32) (V : Mem) (Q : Option AV → Mem → Prop) : Prop :=
  ((¬ x2 = 3 → wpX7_set_41 C   x1 x2 x3 9 s0 s1 V Q) ∧ (x2 = 3 → wpX7_set_41 C   x1 x2 x3 999 s0 s1 V Q))
set_option maxRecDepth 10000 in
theorem okX7_set_28 {d : Nat} {P : Option AV → Mem → Prop}    (x1 : Int32) (x2 : Int32) (x3 : Int32) (s0 : Int32) (s1 : Int32)  (V : Mem)  (h : wpX7_set_28 (Cl UM d)   x1 x2 x3 s0 s1 V P) : Gq (Kp (d + 1) mX7_set UM P) UM cX7_set 5 RX7 28 [(0, aR 24 0), (1, aI x1), (2, aI x2), (3, aI x3)] [aI s0, aI s1] V := by
  unfold wpX7_set_28 at h
  refine go_iload_n (q := 2) dX7_set_28 rfl rfl ?_
  refine go_iconst (v := 3) dX7_set_29 (by decide) ?_
  refine go_icmp_ne (tgt := 39) dX7_set_30 (by decide) (fun c_1 => ?_) (fun c_1 => ?_)
  · have h := h.1 c_1
    refine go_bipush (v := 9) dX7_set_39 (by decide) ?_
    exact okX7_set_41   x1 x2 x3 9 s0 s1  V  h
  · have h := h.2 c_1
    refine go_sipush (v := 999) dX7_set_33 (by decide) ?_
    refine go_goto (tgt := 41) dX7_set_36 (by decide) ?_
    exact okX7_set_41   x1 x2 x3 999 s0 s1  V  h
def wpX7_set_0 (C : CT)   (x1 : Int32) (x2 : Int32) (x3 : Int32) (V : Mem) (Q : Option AV → Mem → Prop) : Prop :=
  (cI C mX7_isRoof [aR 24 0, aI x1] V (fun x_2 V_1 => ((x_2 = 0 → Q (some (aI (-1000000001))) V_1) ∧ (¬ x_2 = 0 → (cI C mX7_in [aI x2, aI 1, aI 3] V_1 (fun x_4 V_3 => ((x_4 = 0 → Q (some (aI (-1000000001))) V_3) ∧ (¬ x_4 = 0 → ((¬ x2 = 1 → wpX7_set_28 C   x1 x2 x3 0 x3 V_3 Q) ∧ (x2 = 1 → wpX7_set_28 C   x1 x2 x3 1 x3 V_3 Q))))))))))
set_option maxRecDepth 10000 in
theorem okX7_set_0 {d : Nat} {P : Option AV → Mem → Prop}    (x1 : Int32) (x2 : Int32) (x3 : Int32)  (V : Mem)  (h : wpX7_set_0 (Cl UM d)   x1 x2 x3 V P) : Gq (Kp (d + 1) mX7_set UM P) UM cX7_set 5 RX7 0 [(0, aR 24 0), (1, aI x1), (2, aI x2), (3, aI x3)] [] V := by
  unfold wpX7_set_0 at h
  refine go_aload_n (q := 0) dX7_set_0 rfl rfl ?_
  refine go_iload_n (q := 1) dX7_set_1 rfl rfl ?_
  refine go_cVI (As := [aI x1]) (st := []) (r := 24) (i := 0) mv_X7_isRoof dX7_set_2 ml_X7_111 (hr_Kp (Nat.le_refl d)) rfl rfl (mM (by decide) (by decide) rfl) rfl rfl (Nat.le_of_ble_eq_true rfl) h (fun x_2 V_1 h => ?_)
  refine go_if_eq (tgt := 47) dX7_set_5 (by decide) (fun c_7 => ?_) (fun c_7 => ?_)
  · have h := h.1 c_7
    refine go_ldc dX7_set_47 ct_X7_84 ?_
    exact go_iret rfl dX7_set_49 h
  · have h := h.2 c_7
    refine go_iload_n (q := 2) dX7_set_8 rfl rfl ?_
    refine go_iconst (v := 1) dX7_set_9 (by decide) ?_
    refine go_iconst (v := 3) dX7_set_10 (by decide) ?_
    refine go_cSI (As := [aI x2, aI 1, aI 3]) (st := []) ms_X7_in dX7_set_11 ml_X7_76 (hr_Kp (Nat.le_refl d)) rfl rfl (Nat.le_of_ble_eq_true rfl) h (fun x_4 V_3 h => ?_)
    refine go_if_eq (tgt := 47) dX7_set_14 (by decide) (fun c_6 => ?_) (fun c_6 => ?_)
    · have h := h.1 c_6
      refine go_ldc dX7_set_47 ct_X7_84 ?_
      exact go_iret rfl dX7_set_49 h
    · have h := h.2 c_6
      refine go_iload_n (q := 3) dX7_set_17 rfl rfl ?_
      refine go_iload_n (q := 2) dX7_set_18 rfl rfl ?_
      refine go_iconst (v := 1) dX7_set_19 (by decide) ?_
      refine go_icmp_ne (tgt := 27) dX7_set_20 (by decide) (fun c_5 => ?_) (fun c_5 => ?_)
      · have h := h.1 c_5
        refine go_iconst (v := 0) dX7_set_27 (by decide) ?_
        exact okX7_set_28   x1 x2 x3 0 x3  V_3  h
      · have h := h.2 c_5
        refine go_iconst (v := 1) dX7_set_23 (by decide) ?_
        refine go_goto (tgt := 28) dX7_set_24 (by decide) ?_
        exact okX7_set_28   x1 x2 x3 1 x3  V_3  h
theorem clX7_set {d : Nat} {P : Option AV → Mem → Prop}    (x1 : Int32) (x2 : Int32) (x3 : Int32) (V : Mem)  (h : wpX7_set_0 (Cl UM d)   x1 x2 x3 V P) : Cl UM (d + 1) mX7_set [aR 24 0, aI x1, aI x2, aI x3] V P :=
  cl_of [(0, aR 24 0), (1, aI x1), (2, aI x2), (3, aI x3)] (by decide) (fun _ => Nat.le_of_ble_eq_true rfl) (fun _ => rfl) (okX7_set_0   x1 x2 x3 V  h)
theorem dX7_sweep_0 : decode cX7_sweep 0 = .ok (.aload_n 0, 1) := by decide +kernel
theorem dX7_sweep_1 : decode cX7_sweep 1 = .ok (.iload_n 1, 1) := by decide +kernel
theorem dX7_sweep_2 : decode cX7_sweep 2 = .ok (.invokevirtual 111, 3) := by decide +kernel
theorem dX7_sweep_5 : decode cX7_sweep 5 = .ok (.ifCond .eq 14, 3) := by decide +kernel
theorem dX7_sweep_8 : decode cX7_sweep 8 = .ok (.iload_n 2, 1) := by decide +kernel
theorem dX7_sweep_9 : decode cX7_sweep 9 = .ok (.iconst 1, 1) := by decide +kernel
theorem dX7_sweep_10 : decode cX7_sweep 10 = .ok (.sipush 9999, 3) := by decide +kernel
theorem dX7_sweep_13 : decode cX7_sweep 13 = .ok (.invokestatic 76, 3) := by decide +kernel
theorem dX7_sweep_16 : decode cX7_sweep 16 = .ok (.ifCond .ne 6, 3) := by decide +kernel
theorem dX7_sweep_19 : decode cX7_sweep 19 = .ok (.ldc 84, 2) := by decide +kernel
theorem dX7_sweep_21 : decode cX7_sweep 21 = .ok (.ireturn, 1) := by decide +kernel
theorem dX7_sweep_22 : decode cX7_sweep 22 = .ok (.iload_n 2, 1) := by decide +kernel
theorem dX7_sweep_23 : decode cX7_sweep 23 = .ok (.iconst 0, 1) := by decide +kernel
theorem dX7_sweep_24 : decode cX7_sweep 24 = .ok (.aload_n 0, 1) := by decide +kernel
theorem dX7_sweep_25 : decode cX7_sweep 25 = .ok (.getfield 9, 3) := by decide +kernel
theorem dX7_sweep_28 : decode cX7_sweep 28 = .ok (.iconst 4, 1) := by decide +kernel
theorem dX7_sweep_29 : decode cX7_sweep 29 = .ok (.iaload, 1) := by decide +kernel
theorem dX7_sweep_30 : decode cX7_sweep 30 = .ok (.invokestatic 104, 3) := by decide +kernel
theorem dX7_sweep_33 : decode cX7_sweep 33 = .ok (.iconst 0, 1) := by decide +kernel
theorem dX7_sweep_34 : decode cX7_sweep 34 = .ok (.sipush 9999, 3) := by decide +kernel
theorem dX7_sweep_37 : decode cX7_sweep 37 = .ok (.aload_n 0, 1) := by decide +kernel
theorem dX7_sweep_38 : decode cX7_sweep 38 = .ok (.iload_n 1, 1) := by decide +kernel
theorem dX7_sweep_39 : decode cX7_sweep 39 = .ok (.iconst 5, 1) := by decide +kernel
theorem dX7_sweep_40 : decode cX7_sweep 40 = .ok (.invokevirtual 94, 3) := by decide +kernel
theorem dX7_sweep_43 : decode cX7_sweep 43 = .ok (.isub, 1) := by decide +kernel
theorem dX7_sweep_44 : decode cX7_sweep 44 = .ok (.invokestatic 104, 3) := by decide +kernel
theorem dX7_sweep_47 : decode cX7_sweep 47 = .ok (.istore_n 3, 1) := by decide +kernel
theorem dX7_sweep_48 : decode cX7_sweep 48 = .ok (.aload_n 0, 1) := by decide +kernel
theorem dX7_sweep_49 : decode cX7_sweep 49 = .ok (.getfield 9, 3) := by decide +kernel
theorem dX7_sweep_52 : decode cX7_sweep 52 = .ok (.iconst 4, 1) := by decide +kernel
theorem dX7_sweep_53 : decode cX7_sweep 53 = .ok (.dup2, 1) := by decide +kernel
theorem dX7_sweep_54 : decode cX7_sweep 54 = .ok (.iaload, 1) := by decide +kernel
theorem dX7_sweep_55 : decode cX7_sweep 55 = .ok (.iload_n 3, 1) := by decide +kernel
theorem dX7_sweep_56 : decode cX7_sweep 56 = .ok (.isub, 1) := by decide +kernel
theorem dX7_sweep_57 : decode cX7_sweep 57 = .ok (.iastore, 1) := by decide +kernel
theorem dX7_sweep_58 : decode cX7_sweep 58 = .ok (.aload_n 0, 1) := by decide +kernel
theorem dX7_sweep_59 : decode cX7_sweep 59 = .ok (.iload_n 1, 1) := by decide +kernel
theorem dX7_sweep_60 : decode cX7_sweep 60 = .ok (.iconst 5, 1) := by decide +kernel
theorem dX7_sweep_61 : decode cX7_sweep 61 = .ok (.aload_n 0, 1) := by decide +kernel
theorem dX7_sweep_62 : decode cX7_sweep 62 = .ok (.iload_n 1, 1) := by decide +kernel
theorem dX7_sweep_63 : decode cX7_sweep 63 = .ok (.iconst 5, 1) := by decide +kernel
theorem dX7_sweep_64 : decode cX7_sweep 64 = .ok (.invokevirtual 94, 3) := by decide +kernel
theorem dX7_sweep_67 : decode cX7_sweep 67 = .ok (.iload_n 3, 1) := by decide +kernel
theorem dX7_sweep_68 : decode cX7_sweep 68 = .ok (.iadd, 1) := by decide +kernel
theorem dX7_sweep_69 : decode cX7_sweep 69 = .ok (.invokevirtual 80, 3) := by decide +kernel
theorem dX7_sweep_72 : decode cX7_sweep 72 = .ok (.aload_n 0, 1) := by decide +kernel
theorem dX7_sweep_73 : decode cX7_sweep 73 = .ok (.getfield 9, 3) := by decide +kernel
theorem dX7_sweep_76 : decode cX7_sweep 76 = .ok (.bipush 8, 2) := by decide +kernel
theorem dX7_sweep_78 : decode cX7_sweep 78 = .ok (.dup2, 1) := by decide +kernel
theorem dX7_sweep_79 : decode cX7_sweep 79 = .ok (.iaload, 1) := by decide +kernel
theorem dX7_sweep_80 : decode cX7_sweep 80 = .ok (.iload_n 3, 1) := by decide +kernel
theorem dX7_sweep_81 : decode cX7_sweep 81 = .ok (.iadd, 1) := by decide +kernel
theorem dX7_sweep_82 : decode cX7_sweep 82 = .ok (.iastore, 1) := by decide +kernel
theorem dX7_sweep_83 : decode cX7_sweep 83 = .ok (.iload_n 3, 1) := by decide +kernel
theorem dX7_sweep_84 : decode cX7_sweep 84 = .ok (.ireturn, 1) := by decide +kernel
def wpX7_sweep_0 (C : CT)   (x1 : Int32) (x2 : Int32) (V : Mem) (Q : Option AV → Mem → Prop) : Prop :=
  (cI C mX7_isRoof [aR 24 0, aI x1] V (fun x_2 V_1 => ((x_2 = 0 → Q (some (aI (-1000000001))) V_1) ∧ (¬ x_2 = 0 → (cI C mX7_in [aI x2, aI 1, aI 9999] V_1 (fun x_4 V_3 => ((¬ x_4 = 0 → (cI C mX7_within [aI x2, aI 0, aI (V_3 25 0 4)] V_3 (fun x_6 V_5 => (cI C mX7_of [aR 24 0, aI x1, aI 5] V_5 (fun x_8 V_7 => (cI C mX7_within [aI x_6, aI 0, aI (9999 - x_8)] V_7 (fun x_10 V_9 => (∀ V_11 : Mem, V_11 = mu V_9 25 0 4 ((V_9 25 0 4) - x_10) → (cI C mX7_of [aR 24 0, aI x1, aI 5] V_11 (fun x_13 V_12 => (cV C mX7_put [aR 24 0, aI x1, aI 5, aI (x_13 + x_10)] V_12 (fun V_14 => (∀ V_15 : Mem, V_15 = mu V_14 25 0 8 ((V_14 25 0 8) + x_10) → Q (some (aI x_10)) V_15))))))))))))) ∧ (x_4 = 0 → Q (some (aI (-1000000001))) V_3))))))))
set_option maxRecDepth 10000 in
theorem okX7_sweep_0 {d : Nat} {P : Option AV → Mem → Prop}    (x1 : Int32) (x2 : Int32)  (V : Mem)  (h : wpX7_sweep_0 (Cl UM d)   x1 x2 V P) : Gq (Kp (d + 1) mX7_sweep UM P) UM cX7_sweep 4 RX7 0 [(0, aR 24 0), (1, aI x1), (2, aI x2)] [] V := by
  unfold wpX7_sweep_0 at h
  refine go_aload_n (q := 0) dX7_sweep_0 rfl rfl ?_
  refine go_iload_n (q := 1) dX7_sweep_1 rfl rfl ?_
  refine go_cVI (As := [aI x1]) (st := []) (r := 24) (i := 0) mv_X7_isRoof dX7_sweep_2 ml_X7_111 (hr_Kp (Nat.le_refl d)) rfl rfl (mM (by decide) (by decide) rfl) rfl rfl (Nat.le_of_ble_eq_true rfl) h (fun x_2 V_1 h => ?_)
  refine go_if_eq (tgt := 19) dX7_sweep_5 (by decide) (fun c_17 => ?_) (fun c_17 => ?_)
  · have h := h.1 c_17
    refine go_ldc dX7_sweep_19 ct_X7_84 ?_
    exact go_iret rfl dX7_sweep_21 h
  · have h := h.2 c_17
    refine go_iload_n (q := 2) dX7_sweep_8 rfl rfl ?_
    refine go_iconst (v := 1) dX7_sweep_9 (by decide) ?_
    refine go_sipush (v := 9999) dX7_sweep_10 (by decide) ?_
    refine go_cSI (As := [aI x2, aI 1, aI 9999]) (st := []) ms_X7_in dX7_sweep_13 ml_X7_76 (hr_Kp (Nat.le_refl d)) rfl rfl (Nat.le_of_ble_eq_true rfl) h (fun x_4 V_3 h => ?_)
    refine go_if_ne (tgt := 22) dX7_sweep_16 (by decide) (fun c_16 => ?_) (fun c_16 => ?_)
    · have h := h.1 c_16
      refine go_iload_n (q := 2) dX7_sweep_22 rfl rfl ?_
      refine go_iconst (v := 0) dX7_sweep_23 (by decide) ?_
      refine go_aload_n (q := 0) dX7_sweep_24 rfl rfl ?_
      refine go_getr fg_X7_9 dX7_sweep_25 (mM (by decide) (by decide) rfl) ?_
      refine go_iconst (v := 4) dX7_sweep_28 (by decide) ?_
      refine go_iald (r := 25) (n := 1479) (j := 4) rfl (by decide) dX7_sweep_29 (mM (by decide) (by decide) rfl) (by decide) (by decide) ?_
      refine go_cSI (As := [aI x2, aI 0, aI (V_3 25 0 4)]) (st := []) ms_X7_within dX7_sweep_30 ml_X7_104 (hr_Kp (Nat.le_refl d)) rfl rfl (Nat.le_of_ble_eq_true rfl) h (fun x_6 V_5 h => ?_)
      refine go_iconst (v := 0) dX7_sweep_33 (by decide) ?_
      refine go_sipush (v := 9999) dX7_sweep_34 (by decide) ?_
      refine go_aload_n (q := 0) dX7_sweep_37 rfl rfl ?_
      refine go_iload_n (q := 1) dX7_sweep_38 rfl rfl ?_
      refine go_iconst (v := 5) dX7_sweep_39 (by decide) ?_
      refine go_cVI (As := [aI x1, aI 5]) (st := [aI 9999, aI 0, aI x_6]) (r := 24) (i := 0) mv_X7_of dX7_sweep_40 ml_X7_94 (hr_Kp (Nat.le_refl d)) rfl rfl (mM (by decide) (by decide) rfl) rfl rfl (Nat.le_of_ble_eq_true rfl) h (fun x_8 V_7 h => ?_)
      refine go_isub dX7_sweep_43 ?_
      refine go_cSI (As := [aI x_6, aI 0, aI (9999 - x_8)]) (st := []) ms_X7_within dX7_sweep_44 ml_X7_104 (hr_Kp (Nat.le_refl d)) rfl rfl (Nat.le_of_ble_eq_true rfl) h (fun x_10 V_9 h => ?_)
      refine go_istore_n (al1 := [(3, aI x_10), (0, aR 24 0), (1, aI x1), (2, aI x2)]) dX7_sweep_47 rfl (by decide) rfl ?_
      refine go_aload_n (q := 1) dX7_sweep_48 rfl rfl ?_
      refine go_getr fg_X7_9 dX7_sweep_49 (mM (by decide) (by decide) rfl) ?_
      refine go_iconst (v := 4) dX7_sweep_52 (by decide) ?_
      refine go_dup2 dX7_sweep_53 rfl rfl ?_
      refine go_iald (r := 25) (n := 1479) (j := 4) rfl (by decide) dX7_sweep_54 (mM (by decide) (by decide) rfl) (by decide) (by decide) ?_
      refine go_iload_n (q := 0) dX7_sweep_55 rfl rfl ?_
      refine go_isub dX7_sweep_56 ?_
      refine go_iast (r := 25) (n := 1479) (j := 4) rfl (by decide) dX7_sweep_57 (mM (by decide) (by decide) rfl) (by decide) (by decide) ?_
      refine nmV (fun V_11 e_V_11 => ?_)
      have h := h V_11 e_V_11
      refine go_aload_n (q := 1) dX7_sweep_58 rfl rfl ?_
      refine go_iload_n (q := 2) dX7_sweep_59 rfl rfl ?_
      refine go_iconst (v := 5) dX7_sweep_60 (by decide) ?_
      refine go_aload_n (q := 1) dX7_sweep_61 rfl rfl ?_
      refine go_iload_n (q := 2) dX7_sweep_62 rfl rfl ?_
      refine go_iconst (v := 5) dX7_sweep_63 (by decide) ?_
      refine go_cVI (As := [aI x1, aI 5]) (st := [aI 5, aI x1, aR 24 0]) (r := 24) (i := 0) mv_X7_of dX7_sweep_64 ml_X7_94 (hr_Kp (Nat.le_refl d)) rfl rfl (mM (by decide) (by decide) rfl) rfl rfl (Nat.le_of_ble_eq_true rfl) h (fun x_13 V_12 h => ?_)
      refine go_iload_n (q := 0) dX7_sweep_67 rfl rfl ?_
      refine go_iadd dX7_sweep_68 ?_
      refine go_cVV (As := [aI x1, aI 5, aI (x_13 + x_10)]) (st := []) (r := 24) (i := 0) mv_X7_put dX7_sweep_69 ml_X7_80 (hr_Kp (Nat.le_refl d)) rfl rfl (mM (by decide) (by decide) rfl) rfl rfl (Nat.le_of_ble_eq_true rfl) h (fun V_14 h => ?_)
      refine go_aload_n (q := 1) dX7_sweep_72 rfl rfl ?_
      refine go_getr fg_X7_9 dX7_sweep_73 (mM (by decide) (by decide) rfl) ?_
      refine go_bipush (v := 8) dX7_sweep_76 (by decide) ?_
      refine go_dup2 dX7_sweep_78 rfl rfl ?_
      refine go_iald (r := 25) (n := 1479) (j := 8) rfl (by decide) dX7_sweep_79 (mM (by decide) (by decide) rfl) (by decide) (by decide) ?_
      refine go_iload_n (q := 0) dX7_sweep_80 rfl rfl ?_
      refine go_iadd dX7_sweep_81 ?_
      refine go_iast (r := 25) (n := 1479) (j := 8) rfl (by decide) dX7_sweep_82 (mM (by decide) (by decide) rfl) (by decide) (by decide) ?_
      refine nmV (fun V_15 e_V_15 => ?_)
      have h := h V_15 e_V_15
      refine go_iload_n (q := 0) dX7_sweep_83 rfl rfl ?_
      exact go_iret rfl dX7_sweep_84 h
    · have h := h.2 c_16
      refine go_ldc dX7_sweep_19 ct_X7_84 ?_
      exact go_iret rfl dX7_sweep_21 h
theorem clX7_sweep {d : Nat} {P : Option AV → Mem → Prop}    (x1 : Int32) (x2 : Int32) (V : Mem)  (h : wpX7_sweep_0 (Cl UM d)   x1 x2 V P) : Cl UM (d + 1) mX7_sweep [aR 24 0, aI x1, aI x2] V P :=
  cl_of [(0, aR 24 0), (1, aI x1), (2, aI x2)] (by decide) (fun _ => Nat.le_of_ble_eq_true rfl) (fun _ => rfl) (okX7_sweep_0   x1 x2 V  h)
theorem dX7_use_0 : decode cX7_use 0 = .ok (.aload_n 0, 1) := by decide +kernel
theorem dX7_use_1 : decode cX7_use 1 = .ok (.iload_n 1, 1) := by decide +kernel
theorem dX7_use_2 : decode cX7_use 2 = .ok (.invokevirtual 111, 3) := by decide +kernel
theorem dX7_use_5 : decode cX7_use 5 = .ok (.ifCond .eq 14, 3) := by decide +kernel
theorem dX7_use_8 : decode cX7_use 8 = .ok (.iload_n 2, 1) := by decide +kernel
theorem dX7_use_9 : decode cX7_use 9 = .ok (.iconst 1, 1) := by decide +kernel
theorem dX7_use_10 : decode cX7_use 10 = .ok (.sipush 999, 3) := by decide +kernel
theorem dX7_use_13 : decode cX7_use 13 = .ok (.invokestatic 76, 3) := by decide +kernel
theorem dX7_use_16 : decode cX7_use 16 = .ok (.ifCond .ne 6, 3) := by decide +kernel
theorem dX7_use_19 : decode cX7_use 19 = .ok (.ldc 84, 2) := by decide +kernel
theorem dX7_use_21 : decode cX7_use 21 = .ok (.ireturn, 1) := by decide +kernel
theorem dX7_use_22 : decode cX7_use 22 = .ok (.iload_n 2, 1) := by decide +kernel
theorem dX7_use_23 : decode cX7_use 23 = .ok (.iconst 0, 1) := by decide +kernel
theorem dX7_use_24 : decode cX7_use 24 = .ok (.aload_n 0, 1) := by decide +kernel
theorem dX7_use_25 : decode cX7_use 25 = .ok (.iload_n 1, 1) := by decide +kernel
theorem dX7_use_26 : decode cX7_use 26 = .ok (.iconst 4, 1) := by decide +kernel
theorem dX7_use_27 : decode cX7_use 27 = .ok (.invokevirtual 94, 3) := by decide +kernel
theorem dX7_use_30 : decode cX7_use 30 = .ok (.invokestatic 104, 3) := by decide +kernel
theorem dX7_use_33 : decode cX7_use 33 = .ok (.istore_n 3, 1) := by decide +kernel
theorem dX7_use_34 : decode cX7_use 34 = .ok (.aload_n 0, 1) := by decide +kernel
theorem dX7_use_35 : decode cX7_use 35 = .ok (.iload_n 1, 1) := by decide +kernel
theorem dX7_use_36 : decode cX7_use 36 = .ok (.iconst 4, 1) := by decide +kernel
theorem dX7_use_37 : decode cX7_use 37 = .ok (.aload_n 0, 1) := by decide +kernel
theorem dX7_use_38 : decode cX7_use 38 = .ok (.iload_n 1, 1) := by decide +kernel
theorem dX7_use_39 : decode cX7_use 39 = .ok (.iconst 4, 1) := by decide +kernel
theorem dX7_use_40 : decode cX7_use 40 = .ok (.invokevirtual 94, 3) := by decide +kernel
theorem dX7_use_43 : decode cX7_use 43 = .ok (.iload_n 3, 1) := by decide +kernel
theorem dX7_use_44 : decode cX7_use 44 = .ok (.isub, 1) := by decide +kernel
theorem dX7_use_45 : decode cX7_use 45 = .ok (.invokevirtual 80, 3) := by decide +kernel
theorem dX7_use_48 : decode cX7_use 48 = .ok (.aload_n 0, 1) := by decide +kernel
theorem dX7_use_49 : decode cX7_use 49 = .ok (.getfield 9, 3) := by decide +kernel
theorem dX7_use_52 : decode cX7_use 52 = .ok (.bipush 9, 2) := by decide +kernel
theorem dX7_use_54 : decode cX7_use 54 = .ok (.dup2, 1) := by decide +kernel
theorem dX7_use_55 : decode cX7_use 55 = .ok (.iaload, 1) := by decide +kernel
theorem dX7_use_56 : decode cX7_use 56 = .ok (.iload_n 3, 1) := by decide +kernel
theorem dX7_use_57 : decode cX7_use 57 = .ok (.iadd, 1) := by decide +kernel
theorem dX7_use_58 : decode cX7_use 58 = .ok (.iastore, 1) := by decide +kernel
theorem dX7_use_59 : decode cX7_use 59 = .ok (.iload_n 3, 1) := by decide +kernel
theorem dX7_use_60 : decode cX7_use 60 = .ok (.ireturn, 1) := by decide +kernel
def wpX7_use_0 (C : CT)   (x1 : Int32) (x2 : Int32) (V : Mem) (Q : Option AV → Mem → Prop) : Prop :=
  (cI C mX7_isRoof [aR 24 0, aI x1] V (fun x_2 V_1 => ((x_2 = 0 → Q (some (aI (-1000000001))) V_1) ∧ (¬ x_2 = 0 → (cI C mX7_in [aI x2, aI 1, aI 999] V_1 (fun x_4 V_3 => ((¬ x_4 = 0 → (cI C mX7_of [aR 24 0, aI x1, aI 4] V_3 (fun x_6 V_5 => (cI C mX7_within [aI x2, aI 0, aI x_6] V_5 (fun x_8 V_7 => (cI C mX7_of [aR 24 0, aI x1, aI 4] V_7 (fun x_10 V_9 => (cV C mX7_put [aR 24 0, aI x1, aI 4, aI (x_10 - x_8)] V_9 (fun V_11 => (∀ V_12 : Mem, V_12 = mu V_11 25 0 9 ((V_11 25 0 9) + x_8) → Q (some (aI x_8)) V_12)))))))))) ∧ (x_4 = 0 → Q (some (aI (-1000000001))) V_3))))))))
set_option maxRecDepth 10000 in
theorem okX7_use_0 {d : Nat} {P : Option AV → Mem → Prop}    (x1 : Int32) (x2 : Int32)  (V : Mem)  (h : wpX7_use_0 (Cl UM d)   x1 x2 V P) : Gq (Kp (d + 1) mX7_use UM P) UM cX7_use 4 RX7 0 [(0, aR 24 0), (1, aI x1), (2, aI x2)] [] V := by
  unfold wpX7_use_0 at h
  refine go_aload_n (q := 0) dX7_use_0 rfl rfl ?_
  refine go_iload_n (q := 1) dX7_use_1 rfl rfl ?_
  refine go_cVI (As := [aI x1]) (st := []) (r := 24) (i := 0) mv_X7_isRoof dX7_use_2 ml_X7_111 (hr_Kp (Nat.le_refl d)) rfl rfl (mM (by decide) (by decide) rfl) rfl rfl (Nat.le_of_ble_eq_true rfl) h (fun x_2 V_1 h => ?_)
  refine go_if_eq (tgt := 19) dX7_use_5 (by decide) (fun c_14 => ?_) (fun c_14 => ?_)
  · have h := h.1 c_14
    refine go_ldc dX7_use_19 ct_X7_84 ?_
    exact go_iret rfl dX7_use_21 h
  · have h := h.2 c_14
    refine go_iload_n (q := 2) dX7_use_8 rfl rfl ?_
    refine go_iconst (v := 1) dX7_use_9 (by decide) ?_
    refine go_sipush (v := 999) dX7_use_10 (by decide) ?_
    refine go_cSI (As := [aI x2, aI 1, aI 999]) (st := []) ms_X7_in dX7_use_13 ml_X7_76 (hr_Kp (Nat.le_refl d)) rfl rfl (Nat.le_of_ble_eq_true rfl) h (fun x_4 V_3 h => ?_)
    refine go_if_ne (tgt := 22) dX7_use_16 (by decide) (fun c_13 => ?_) (fun c_13 => ?_)
    · have h := h.1 c_13
      refine go_iload_n (q := 2) dX7_use_22 rfl rfl ?_
      refine go_iconst (v := 0) dX7_use_23 (by decide) ?_
      refine go_aload_n (q := 0) dX7_use_24 rfl rfl ?_
      refine go_iload_n (q := 1) dX7_use_25 rfl rfl ?_
      refine go_iconst (v := 4) dX7_use_26 (by decide) ?_
      refine go_cVI (As := [aI x1, aI 4]) (st := [aI 0, aI x2]) (r := 24) (i := 0) mv_X7_of dX7_use_27 ml_X7_94 (hr_Kp (Nat.le_refl d)) rfl rfl (mM (by decide) (by decide) rfl) rfl rfl (Nat.le_of_ble_eq_true rfl) h (fun x_6 V_5 h => ?_)
      refine go_cSI (As := [aI x2, aI 0, aI x_6]) (st := []) ms_X7_within dX7_use_30 ml_X7_104 (hr_Kp (Nat.le_refl d)) rfl rfl (Nat.le_of_ble_eq_true rfl) h (fun x_8 V_7 h => ?_)
      refine go_istore_n (al1 := [(3, aI x_8), (0, aR 24 0), (1, aI x1), (2, aI x2)]) dX7_use_33 rfl (by decide) rfl ?_
      refine go_aload_n (q := 1) dX7_use_34 rfl rfl ?_
      refine go_iload_n (q := 2) dX7_use_35 rfl rfl ?_
      refine go_iconst (v := 4) dX7_use_36 (by decide) ?_
      refine go_aload_n (q := 1) dX7_use_37 rfl rfl ?_
      refine go_iload_n (q := 2) dX7_use_38 rfl rfl ?_
      refine go_iconst (v := 4) dX7_use_39 (by decide) ?_
      refine go_cVI (As := [aI x1, aI 4]) (st := [aI 4, aI x1, aR 24 0]) (r := 24) (i := 0) mv_X7_of dX7_use_40 ml_X7_94 (hr_Kp (Nat.le_refl d)) rfl rfl (mM (by decide) (by decide) rfl) rfl rfl (Nat.le_of_ble_eq_true rfl) h (fun x_10 V_9 h => ?_)
      refine go_iload_n (q := 0) dX7_use_43 rfl rfl ?_
      refine go_isub dX7_use_44 ?_
      refine go_cVV (As := [aI x1, aI 4, aI (x_10 - x_8)]) (st := []) (r := 24) (i := 0) mv_X7_put dX7_use_45 ml_X7_80 (hr_Kp (Nat.le_refl d)) rfl rfl (mM (by decide) (by decide) rfl) rfl rfl (Nat.le_of_ble_eq_true rfl) h (fun V_11 h => ?_)
      refine go_aload_n (q := 1) dX7_use_48 rfl rfl ?_
      refine go_getr fg_X7_9 dX7_use_49 (mM (by decide) (by decide) rfl) ?_
      refine go_bipush (v := 9) dX7_use_52 (by decide) ?_
      refine go_dup2 dX7_use_54 rfl rfl ?_
      refine go_iald (r := 25) (n := 1479) (j := 9) rfl (by decide) dX7_use_55 (mM (by decide) (by decide) rfl) (by decide) (by decide) ?_
      refine go_iload_n (q := 0) dX7_use_56 rfl rfl ?_
      refine go_iadd dX7_use_57 ?_
      refine go_iast (r := 25) (n := 1479) (j := 9) rfl (by decide) dX7_use_58 (mM (by decide) (by decide) rfl) (by decide) (by decide) ?_
      refine nmV (fun V_12 e_V_12 => ?_)
      have h := h V_12 e_V_12
      refine go_iload_n (q := 0) dX7_use_59 rfl rfl ?_
      exact go_iret rfl dX7_use_60 h
    · have h := h.2 c_13
      refine go_ldc dX7_use_19 ct_X7_84 ?_
      exact go_iret rfl dX7_use_21 h
theorem clX7_use {d : Nat} {P : Option AV → Mem → Prop}    (x1 : Int32) (x2 : Int32) (V : Mem)  (h : wpX7_use_0 (Cl UM d)   x1 x2 V P) : Cl UM (d + 1) mX7_use [aR 24 0, aI x1, aI x2] V P :=
  cl_of [(0, aR 24 0), (1, aI x1), (2, aI x2)] (by decide) (fun _ => Nat.le_of_ble_eq_true rfl) (fun _ => rfl) (okX7_use_0   x1 x2 V  h)
theorem dX7_draw_0 : decode cX7_draw 0 = .ok (.aload_n 0, 1) := by decide +kernel
theorem dX7_draw_1 : decode cX7_draw 1 = .ok (.getfield 9, 3) := by decide +kernel
theorem dX7_draw_4 : decode cX7_draw 4 = .ok (.iconst 0, 1) := by decide +kernel
theorem dX7_draw_5 : decode cX7_draw 5 = .ok (.aload_n 0, 1) := by decide +kernel
theorem dX7_draw_6 : decode cX7_draw 6 = .ok (.getfield 9, 3) := by decide +kernel
theorem dX7_draw_9 : decode cX7_draw 9 = .ok (.iconst 0, 1) := by decide +kernel
theorem dX7_draw_10 : decode cX7_draw 10 = .ok (.iaload, 1) := by decide +kernel
theorem dX7_draw_11 : decode cX7_draw 11 = .ok (.ldc 139, 2) := by decide +kernel
theorem dX7_draw_13 : decode cX7_draw 13 = .ok (.imul, 1) := by decide +kernel
theorem dX7_draw_14 : decode cX7_draw 14 = .ok (.sipush 12345, 3) := by decide +kernel
theorem dX7_draw_17 : decode cX7_draw 17 = .ok (.iadd, 1) := by decide +kernel
theorem dX7_draw_18 : decode cX7_draw 18 = .ok (.iastore, 1) := by decide +kernel
theorem dX7_draw_19 : decode cX7_draw 19 = .ok (.aload_n 0, 1) := by decide +kernel
theorem dX7_draw_20 : decode cX7_draw 20 = .ok (.getfield 9, 3) := by decide +kernel
theorem dX7_draw_23 : decode cX7_draw 23 = .ok (.iconst 0, 1) := by decide +kernel
theorem dX7_draw_24 : decode cX7_draw 24 = .ok (.iaload, 1) := by decide +kernel
theorem dX7_draw_25 : decode cX7_draw 25 = .ok (.bipush 8, 2) := by decide +kernel
theorem dX7_draw_27 : decode cX7_draw 27 = .ok (.iushr, 1) := by decide +kernel
theorem dX7_draw_28 : decode cX7_draw 28 = .ok (.ireturn, 1) := by decide +kernel
def wpX7_draw_0 (C : CT)    (V : Mem) (Q : Option AV → Mem → Prop) : Prop :=
  (∀ V_1 : Mem, V_1 = mu V 25 0 0 (((V 25 0 0) * 1103515245) + 12345) → Q (some (aI ((((V_1 25 0 0)).toUInt32 >>> ((8 : Int32).toUInt32 &&& Int32.toUInt32 31)).toInt32))) V_1)
set_option maxRecDepth 10000 in
theorem okX7_draw_0 {d : Nat} {P : Option AV → Mem → Prop}      (V : Mem)  (h : wpX7_draw_0 (Cl UM d)    V P) : Gq (Kp (d + 1) mX7_draw UM P) UM cX7_draw 1 RX7 0 [(0, aR 24 0)] [] V := by
  unfold wpX7_draw_0 at h
  refine go_aload_n (q := 0) dX7_draw_0 rfl rfl ?_
  refine go_getr fg_X7_9 dX7_draw_1 (mM (by decide) (by decide) rfl) ?_
  refine go_iconst (v := 0) dX7_draw_4 (by decide) ?_
  refine go_aload_n (q := 0) dX7_draw_5 rfl rfl ?_
  refine go_getr fg_X7_9 dX7_draw_6 (mM (by decide) (by decide) rfl) ?_
  refine go_iconst (v := 0) dX7_draw_9 (by decide) ?_
  refine go_iald (r := 25) (n := 1479) (j := 0) rfl (by decide) dX7_draw_10 (mM (by decide) (by decide) rfl) (by decide) (by decide) ?_
  refine go_ldc dX7_draw_11 ct_X7_139 ?_
  refine go_imul dX7_draw_13 ?_
  refine go_sipush (v := 12345) dX7_draw_14 (by decide) ?_
  refine go_iadd dX7_draw_17 ?_
  refine go_iast (r := 25) (n := 1479) (j := 0) rfl (by decide) dX7_draw_18 (mM (by decide) (by decide) rfl) (by decide) (by decide) ?_
  refine nmV (fun V_1 e_V_1 => ?_)
  have h := h V_1 e_V_1
  refine go_aload_n (q := 0) dX7_draw_19 rfl rfl ?_
  refine go_getr fg_X7_9 dX7_draw_20 (mM (by decide) (by decide) rfl) ?_
  refine go_iconst (v := 0) dX7_draw_23 (by decide) ?_
  refine go_iald (r := 25) (n := 1479) (j := 0) rfl (by decide) dX7_draw_24 (mM (by decide) (by decide) rfl) (by decide) (by decide) ?_
  refine go_bipush (v := 8) dX7_draw_25 (by decide) ?_
  refine go_iushr dX7_draw_27 ?_
  exact go_iret rfl dX7_draw_28 h
theorem clX7_draw {d : Nat} {P : Option AV → Mem → Prop}     (V : Mem)  (h : wpX7_draw_0 (Cl UM d)    V P) : Cl UM (d + 1) mX7_draw [aR 24 0] V P :=
  cl_of [(0, aR 24 0)] (by decide) (fun _ => Nat.le_of_ble_eq_true rfl) (fun _ => rfl) (okX7_draw_0    V  h)
theorem dX7_deal_0 : decode cX7_deal 0 = .ok (.iload_n 1, 1) := by decide +kernel
theorem dX7_deal_1 : decode cX7_deal 1 = .ok (.iconst 1, 1) := by decide +kernel
theorem dX7_deal_2 : decode cX7_deal 2 = .ok (.bipush 8, 2) := by decide +kernel
theorem dX7_deal_4 : decode cX7_deal 4 = .ok (.invokestatic 76, 3) := by decide +kernel
theorem dX7_deal_7 : decode cX7_deal 7 = .ok (.ifCond .ne 6, 3) := by decide +kernel
theorem dX7_deal_10 : decode cX7_deal 10 = .ok (.ldc 84, 2) := by decide +kernel
theorem dX7_deal_12 : decode cX7_deal 12 = .ok (.ireturn, 1) := by decide +kernel
theorem dX7_deal_13 : decode cX7_deal 13 = .ok (.iconst 0, 1) := by decide +kernel
theorem dX7_deal_14 : decode cX7_deal 14 = .ok (.istore_n 2, 1) := by decide +kernel
theorem dX7_deal_15 : decode cX7_deal 15 = .ok (.iload_n 2, 1) := by decide +kernel
theorem dX7_deal_16 : decode cX7_deal 16 = .ok (.iload_n 1, 1) := by decide +kernel
theorem dX7_deal_17 : decode cX7_deal 17 = .ok (.if_icmp .ge 44, 3) := by decide +kernel
theorem dX7_deal_20 : decode cX7_deal 20 = .ok (.aload_n 0, 1) := by decide +kernel
theorem dX7_deal_21 : decode cX7_deal 21 = .ok (.getfield 9, 3) := by decide +kernel
theorem dX7_deal_24 : decode cX7_deal 24 = .ok (.iconst 1, 1) := by decide +kernel
theorem dX7_deal_25 : decode cX7_deal 25 = .ok (.iaload, 1) := by decide +kernel
theorem dX7_deal_26 : decode cX7_deal 26 = .ok (.bipush 8, 2) := by decide +kernel
theorem dX7_deal_28 : decode cX7_deal 28 = .ok (.if_icmp .ge 33, 3) := by decide +kernel
theorem dX7_deal_31 : decode cX7_deal 31 = .ok (.aload_n 0, 1) := by decide +kernel
theorem dX7_deal_32 : decode cX7_deal 32 = .ok (.invokevirtual 140, 3) := by decide +kernel
theorem dX7_deal_35 : decode cX7_deal 35 = .ok (.bipush 6, 2) := by decide +kernel
theorem dX7_deal_37 : decode cX7_deal 37 = .ok (.irem, 1) := by decide +kernel
theorem dX7_deal_38 : decode cX7_deal 38 = .ok (.istore_n 3, 1) := by decide +kernel
theorem dX7_deal_39 : decode cX7_deal 39 = .ok (.aload_n 0, 1) := by decide +kernel
theorem dX7_deal_40 : decode cX7_deal 40 = .ok (.iload_n 3, 1) := by decide +kernel
theorem dX7_deal_41 : decode cX7_deal 41 = .ok (.iconst 1, 1) := by decide +kernel
theorem dX7_deal_42 : decode cX7_deal 42 = .ok (.aload_n 0, 1) := by decide +kernel
theorem dX7_deal_43 : decode cX7_deal 43 = .ok (.invokevirtual 140, 3) := by decide +kernel
theorem dX7_deal_46 : decode cX7_deal 46 = .ok (.bipush 9, 2) := by decide +kernel
theorem dX7_deal_48 : decode cX7_deal 48 = .ok (.irem, 1) := by decide +kernel
theorem dX7_deal_49 : decode cX7_deal 49 = .ok (.iadd, 1) := by decide +kernel
theorem dX7_deal_50 : decode cX7_deal 50 = .ok (.invokevirtual 86, 3) := by decide +kernel
theorem dX7_deal_53 : decode cX7_deal 53 = .ok (.istore 4, 2) := by decide +kernel
theorem dX7_deal_55 : decode cX7_deal 55 = .ok (.iinc 2 1, 3) := by decide +kernel
theorem dX7_deal_58 : decode cX7_deal 58 = .ok (.goto (-43), 3) := by decide +kernel
theorem dX7_deal_61 : decode cX7_deal 61 = .ok (.iload_n 2, 1) := by decide +kernel
theorem dX7_deal_62 : decode cX7_deal 62 = .ok (.ireturn, 1) := by decide +kernel
def wpX7_deal_15 (C : CT) (I15 : Int32 → Int32 → Mem → Prop)  (x1 : Int32) (x2 : Int32) (V : Mem) (Q : Option AV → Mem → Prop) : Prop :=
  ((x1 ≤ x2 → Q (some (aI x2)) V) ∧ (¬ x1 ≤ x2 → ((8 ≤ (V 25 0 1) → Q (some (aI x2)) V) ∧ (¬ 8 ≤ (V 25 0 1) → (cI C mX7_draw [aR 24 0] V (fun x_2 V_1 => (∀ z_3 : Int32, z_3 = (x_2 - x_2 / 6 * 6) → (cI C mX7_draw [aR 24 0] V_1 (fun x_5 V_4 => (∀ z_6 : Int32, z_6 = (x_5 - x_5 / 9 * 9) → (cI C mX7_comes [aR 24 0, aI z_3, aI (1 + z_6)] V_4 (fun x_8 V_7 => I15 x1 (x2 + 1) V_7))))))))))))
set_option maxRecDepth 10000 in
theorem okX7_deal_15 {d : Nat} {P : Option AV → Mem → Prop} {I15 : Int32 → Int32 → Mem → Prop}   (x1 : Int32) (x2 : Int32)  (V : Mem) (hk15 : ∀ (x1 : Int32) (x2 : Int32), ∀ (V : Mem), I15 x1 x2 V → Gq (Kp (d + 1) mX7_deal UM P) UM cX7_deal 5 RX7 15 [(0, aR 24 0), (1, aI x1), (2, aI x2)] [] V) (h : wpX7_deal_15 (Cl UM d) I15  x1 x2 V P) : Gq (Kp (d + 1) mX7_deal UM P) UM cX7_deal 5 RX7 15 [(0, aR 24 0), (1, aI x1), (2, aI x2)] [] V := by
  unfold wpX7_deal_15 at h
  refine go_iload_n (q := 2) dX7_deal_15 rfl rfl ?_
  refine go_iload_n (q := 1) dX7_deal_16 rfl rfl ?_
  refine go_icmp_ge (tgt := 61) dX7_deal_17 (by decide) (fun c_10 => ?_) (fun c_10 => ?_)
  · have h := h.1 c_10
    refine go_iload_n (q := 2) dX7_deal_61 rfl rfl ?_
    exact go_iret rfl dX7_deal_62 h
  · have h := h.2 c_10
    refine go_aload_n (q := 0) dX7_deal_20 rfl rfl ?_
    refine go_getr fg_X7_9 dX7_deal_21 (mM (by decide) (by decide) rfl) ?_
    refine go_iconst (v := 1) dX7_deal_24 (by decide) ?_
    refine go_iald (r := 25) (n := 1479) (j := 1) rfl (by decide) dX7_deal_25 (mM (by decide) (by decide) rfl) (by decide) (by decide) ?_
    refine go_bipush (v := 8) dX7_deal_26 (by decide) ?_
    refine go_icmp_ge (tgt := 61) dX7_deal_28 (by decide) (fun c_9 => ?_) (fun c_9 => ?_)
    · have h := h.1 c_9
      refine go_iload_n (q := 2) dX7_deal_61 rfl rfl ?_
      exact go_iret rfl dX7_deal_62 h
    · have h := h.2 c_9
      refine go_aload_n (q := 0) dX7_deal_31 rfl rfl ?_
      refine go_cVI (As := []) (st := []) (r := 24) (i := 0) mv_X7_draw dX7_deal_32 ml_X7_140 (hr_Kp (Nat.le_refl d)) rfl rfl (mM (by decide) (by decide) rfl) rfl rfl (Nat.le_of_ble_eq_true rfl) h (fun x_2 V_1 h => ?_)
      refine go_bipush (v := 6) dX7_deal_35 (by decide) ?_
      refine go_irem dX7_deal_37 (by decide) ?_
      refine nmI (fun z_3 e_z_3 => ?_)
      have h := h z_3 e_z_3
      refine go_istore_n (al1 := [(3, aI z_3), (0, aR 24 0), (1, aI x1), (2, aI x2)]) dX7_deal_38 rfl (by decide) rfl ?_
      refine go_aload_n (q := 1) dX7_deal_39 rfl rfl ?_
      refine go_iload_n (q := 0) dX7_deal_40 rfl rfl ?_
      refine go_iconst (v := 1) dX7_deal_41 (by decide) ?_
      refine go_aload_n (q := 1) dX7_deal_42 rfl rfl ?_
      refine go_cVI (As := []) (st := [aI 1, aI z_3, aR 24 0]) (r := 24) (i := 0) mv_X7_draw dX7_deal_43 ml_X7_140 (hr_Kp (Nat.le_refl d)) rfl rfl (mM (by decide) (by decide) rfl) rfl rfl (Nat.le_of_ble_eq_true rfl) h (fun x_5 V_4 h => ?_)
      refine go_bipush (v := 9) dX7_deal_46 (by decide) ?_
      refine go_irem dX7_deal_48 (by decide) ?_
      refine nmI (fun z_6 e_z_6 => ?_)
      have h := h z_6 e_z_6
      refine go_iadd dX7_deal_49 ?_
      refine go_cVI (As := [aI z_3, aI (1 + z_6)]) (st := []) (r := 24) (i := 0) mv_X7_comes dX7_deal_50 ml_X7_86 (hr_Kp (Nat.le_refl d)) rfl rfl (mM (by decide) (by decide) rfl) rfl rfl (Nat.le_of_ble_eq_true rfl) h (fun x_8 V_7 h => ?_)
      refine go_istore (al1 := [(4, aI x_8), (3, aI z_3), (0, aR 24 0), (1, aI x1), (2, aI x2)]) dX7_deal_53 (by decide) rfl ?_
      refine go_iinc (q := 4) (y := 1) (al1 := [(2, aI (x2 + 1)), (4, aI x_8), (3, aI z_3), (0, aR 24 0), (1, aI x1)]) dX7_deal_55 rfl (by decide) (by decide) rfl ?_
      refine go_goto (tgt := 15) dX7_deal_58 (by decide) ?_
      refine go_sub (al1 := [(0, aR 24 0), (1, aI x1), (2, aI (x2 + 1))]) [3, 4, 0] rfl ?_
      exact hk15 x1 (x2 + 1)  V_7 h
def wpX7_deal_0 (C : CT) (I15 : Int32 → Int32 → Mem → Prop)  (x1 : Int32) (V : Mem) (Q : Option AV → Mem → Prop) : Prop :=
  (cI C mX7_in [aI x1, aI 1, aI 8] V (fun x_2 V_1 => ((¬ x_2 = 0 → I15 x1 0 V_1) ∧ (x_2 = 0 → Q (some (aI (-1000000001))) V_1))))
set_option maxRecDepth 10000 in
theorem okX7_deal_0 {d : Nat} {P : Option AV → Mem → Prop} {I15 : Int32 → Int32 → Mem → Prop}   (x1 : Int32)  (V : Mem) (hk15 : ∀ (x1 : Int32) (x2 : Int32), ∀ (V : Mem), I15 x1 x2 V → Gq (Kp (d + 1) mX7_deal UM P) UM cX7_deal 5 RX7 15 [(0, aR 24 0), (1, aI x1), (2, aI x2)] [] V) (h : wpX7_deal_0 (Cl UM d) I15  x1 V P) : Gq (Kp (d + 1) mX7_deal UM P) UM cX7_deal 5 RX7 0 [(0, aR 24 0), (1, aI x1)] [] V := by
  unfold wpX7_deal_0 at h
  refine go_iload_n (q := 1) dX7_deal_0 rfl rfl ?_
  refine go_iconst (v := 1) dX7_deal_1 (by decide) ?_
  refine go_bipush (v := 8) dX7_deal_2 (by decide) ?_
  refine go_cSI (As := [aI x1, aI 1, aI 8]) (st := []) ms_X7_in dX7_deal_4 ml_X7_76 (hr_Kp (Nat.le_refl d)) rfl rfl (Nat.le_of_ble_eq_true rfl) h (fun x_2 V_1 h => ?_)
  refine go_if_ne (tgt := 13) dX7_deal_7 (by decide) (fun c_3 => ?_) (fun c_3 => ?_)
  · have h := h.1 c_3
    refine go_iconst (v := 0) dX7_deal_13 (by decide) ?_
    refine go_istore_n (al1 := [(2, aI 0), (0, aR 24 0), (1, aI x1)]) dX7_deal_14 rfl (by decide) rfl ?_
    refine go_sub (al1 := [(0, aR 24 0), (1, aI x1), (2, aI 0)]) [1, 2, 0] rfl ?_
    exact hk15 x1 0  V_1 h
  · have h := h.2 c_3
    refine go_ldc dX7_deal_10 ct_X7_84 ?_
    exact go_iret rfl dX7_deal_12 h
theorem clX7_deal {d : Nat} {P : Option AV → Mem → Prop} {I15 : Int32 → Int32 → Mem → Prop}   (x1 : Int32) (V : Mem) (hk15 : ∀ (x1 : Int32) (x2 : Int32), ∀ (V : Mem), I15 x1 x2 V → Gq (Kp (d + 1) mX7_deal UM P) UM cX7_deal 5 RX7 15 [(0, aR 24 0), (1, aI x1), (2, aI x2)] [] V) (h : wpX7_deal_0 (Cl UM d) I15  x1 V P) : Cl UM (d + 1) mX7_deal [aR 24 0, aI x1] V P :=
  cl_of [(0, aR 24 0), (1, aI x1)] (by decide) (fun _ => Nat.le_of_ble_eq_true rfl) (fun _ => rfl) (okX7_deal_0   x1 V hk15 h)
theorem dX7_seed_0 : decode cX7_seed 0 = .ok (.aload_n 0, 1) := by decide +kernel
theorem dX7_seed_1 : decode cX7_seed 1 = .ok (.iconst 0, 1) := by decide +kernel
theorem dX7_seed_2 : decode cX7_seed 2 = .ok (.iload_n 1, 1) := by decide +kernel
theorem dX7_seed_3 : decode cX7_seed 3 = .ok (.invokevirtual 132, 3) := by decide +kernel
theorem dX7_seed_6 : decode cX7_seed 6 = .ok (.ireturn, 1) := by decide +kernel
def wpX7_seed_0 (C : CT)   (x1 : Int32) (V : Mem) (Q : Option AV → Mem → Prop) : Prop :=
  (cI C mX7_becomes [aR 24 0, aI 0, aI x1] V (fun x_2 V_1 => Q (some (aI x_2)) V_1))
set_option maxRecDepth 10000 in
theorem okX7_seed_0 {d : Nat} {P : Option AV → Mem → Prop}    (x1 : Int32)  (V : Mem)  (h : wpX7_seed_0 (Cl UM d)   x1 V P) : Gq (Kp (d + 1) mX7_seed UM P) UM cX7_seed 2 RX7 0 [(0, aR 24 0), (1, aI x1)] [] V := by
  unfold wpX7_seed_0 at h
  refine go_aload_n (q := 0) dX7_seed_0 rfl rfl ?_
  refine go_iconst (v := 0) dX7_seed_1 (by decide) ?_
  refine go_iload_n (q := 1) dX7_seed_2 rfl rfl ?_
  refine go_cVI (As := [aI 0, aI x1]) (st := []) (r := 24) (i := 0) mv_X7_becomes dX7_seed_3 ml_X7_132 (hr_Kp (Nat.le_refl d)) rfl rfl (mM (by decide) (by decide) rfl) rfl rfl (Nat.le_of_ble_eq_true rfl) h (fun x_2 V_1 h => ?_)
  exact go_iret rfl dX7_seed_6 h
theorem clX7_seed {d : Nat} {P : Option AV → Mem → Prop}    (x1 : Int32) (V : Mem)  (h : wpX7_seed_0 (Cl UM d)   x1 V P) : Cl UM (d + 1) mX7_seed [aR 24 0, aI x1] V P :=
  cl_of [(0, aR 24 0), (1, aI x1)] (by decide) (fun _ => Nat.le_of_ble_eq_true rfl) (fun _ => rfl) (okX7_seed_0   x1 V  h)
theorem dX7_weather_0 : decode cX7_weather 0 = .ok (.iload_n 1, 1) := by decide +kernel
theorem dX7_weather_1 : decode cX7_weather 1 = .ok (.iconst 0, 1) := by decide +kernel
theorem dX7_weather_2 : decode cX7_weather 2 = .ok (.bipush 23, 2) := by decide +kernel
theorem dX7_weather_4 : decode cX7_weather 4 = .ok (.invokestatic 76, 3) := by decide +kernel
theorem dX7_weather_7 : decode cX7_weather 7 = .ok (.ifCond .eq 40, 3) := by decide +kernel
theorem dX7_weather_10 : decode cX7_weather 10 = .ok (.iload_n 2, 1) := by decide +kernel
theorem dX7_weather_11 : decode cX7_weather 11 = .ok (.iconst 0, 1) := by decide +kernel
theorem dX7_weather_12 : decode cX7_weather 12 = .ok (.iconst 1, 1) := by decide +kernel
theorem dX7_weather_13 : decode cX7_weather 13 = .ok (.invokestatic 76, 3) := by decide +kernel
theorem dX7_weather_16 : decode cX7_weather 16 = .ok (.ifCond .eq 31, 3) := by decide +kernel
theorem dX7_weather_19 : decode cX7_weather 19 = .ok (.iload_n 3, 1) := by decide +kernel
theorem dX7_weather_20 : decode cX7_weather 20 = .ok (.iload_n 2, 1) := by decide +kernel
theorem dX7_weather_21 : decode cX7_weather 21 = .ok (.ifCond .ne 8, 3) := by decide +kernel
theorem dX7_weather_24 : decode cX7_weather 24 = .ok (.bipush (-20), 2) := by decide +kernel
theorem dX7_weather_26 : decode cX7_weather 26 = .ok (.goto 4, 3) := by decide +kernel
theorem dX7_weather_29 : decode cX7_weather 29 = .ok (.iconst 0, 1) := by decide +kernel
theorem dX7_weather_30 : decode cX7_weather 30 = .ok (.iload_n 2, 1) := by decide +kernel
theorem dX7_weather_31 : decode cX7_weather 31 = .ok (.ifCond .ne 8, 3) := by decide +kernel
theorem dX7_weather_34 : decode cX7_weather 34 = .ok (.bipush 20, 2) := by decide +kernel
theorem dX7_weather_36 : decode cX7_weather 36 = .ok (.goto 5, 3) := by decide +kernel
theorem dX7_weather_39 : decode cX7_weather 39 = .ok (.bipush 9, 2) := by decide +kernel
theorem dX7_weather_41 : decode cX7_weather 41 = .ok (.invokestatic 76, 3) := by decide +kernel
theorem dX7_weather_44 : decode cX7_weather 44 = .ok (.ifCond .ne 6, 3) := by decide +kernel
theorem dX7_weather_47 : decode cX7_weather 47 = .ok (.ldc 84, 2) := by decide +kernel
theorem dX7_weather_49 : decode cX7_weather 49 = .ok (.ireturn, 1) := by decide +kernel
theorem dX7_weather_50 : decode cX7_weather 50 = .ok (.aload_n 0, 1) := by decide +kernel
theorem dX7_weather_51 : decode cX7_weather 51 = .ok (.iload_n 2, 1) := by decide +kernel
theorem dX7_weather_52 : decode cX7_weather 52 = .ok (.ifCond .ne 8, 3) := by decide +kernel
theorem dX7_weather_55 : decode cX7_weather 55 = .ok (.bipush 11, 2) := by decide +kernel
theorem dX7_weather_57 : decode cX7_weather 57 = .ok (.goto 5, 3) := by decide +kernel
theorem dX7_weather_60 : decode cX7_weather 60 = .ok (.bipush 35, 2) := by decide +kernel
theorem dX7_weather_62 : decode cX7_weather 62 = .ok (.iload_n 1, 1) := by decide +kernel
theorem dX7_weather_63 : decode cX7_weather 63 = .ok (.iadd, 1) := by decide +kernel
theorem dX7_weather_64 : decode cX7_weather 64 = .ok (.iload_n 3, 1) := by decide +kernel
theorem dX7_weather_65 : decode cX7_weather 65 = .ok (.invokevirtual 132, 3) := by decide +kernel
theorem dX7_weather_68 : decode cX7_weather 68 = .ok (.ireturn, 1) := by decide +kernel
def wpX7_weather_41 (C : CT)   (x1 : Int32) (x2 : Int32) (x3 : Int32) (s0 : Int32) (s1 : Int32) (s2 : Int32) (V : Mem) (Q : Option AV → Mem → Prop) : Prop :=
  (cI C mX7_in [aI s2, aI s1, aI s0] V (fun x_2 V_1 => ((¬ x_2 = 0 → ((¬ x2 = 0 → (cI C mX7_becomes [aR 24 0, aI (35 + x1), aI x3] V_1 (fun x_4 V_3 => Q (some (aI x_4)) V_3))) ∧ (x2 = 0 → (cI C mX7_becomes [aR 24 0, aI (11 + x1), aI x3] V_1 (fun x_6 V_5 => Q (some (aI x_6)) V_5))))) ∧ (x_2 = 0 → Q (some (aI (-1000000001))) V_1))))
set_option maxRecDepth 10000 in
theorem okX7_weather_41 {d : Nat} {P : Option AV → Mem → Prop}    (x1 : Int32) (x2 : Int32) (x3 : Int32) (s0 : Int32) (s1 : Int32) (s2 : Int32)  (V : Mem)  (h : wpX7_weather_41 (Cl UM d)   x1 x2 x3 s0 s1 s2 V P) : Gq (Kp (d + 1) mX7_weather UM P) UM cX7_weather 4 RX7 41 [(0, aR 24 0), (1, aI x1), (2, aI x2), (3, aI x3)] [aI s0, aI s1, aI s2] V := by
  unfold wpX7_weather_41 at h
  refine go_cSI (As := [aI s2, aI s1, aI s0]) (st := []) ms_X7_in dX7_weather_41 ml_X7_76 (hr_Kp (Nat.le_refl d)) rfl rfl (Nat.le_of_ble_eq_true rfl) h (fun x_2 V_1 h => ?_)
  refine go_if_ne (tgt := 50) dX7_weather_44 (by decide) (fun c_8 => ?_) (fun c_8 => ?_)
  · have h := h.1 c_8
    refine go_aload_n (q := 0) dX7_weather_50 rfl rfl ?_
    refine go_iload_n (q := 2) dX7_weather_51 rfl rfl ?_
    refine go_if_ne (tgt := 60) dX7_weather_52 (by decide) (fun c_7 => ?_) (fun c_7 => ?_)
    · have h := h.1 c_7
      refine go_bipush (v := 35) dX7_weather_60 (by decide) ?_
      refine go_iload_n (q := 1) dX7_weather_62 rfl rfl ?_
      refine go_iadd dX7_weather_63 ?_
      refine go_iload_n (q := 3) dX7_weather_64 rfl rfl ?_
      refine go_cVI (As := [aI (35 + x1), aI x3]) (st := []) (r := 24) (i := 0) mv_X7_becomes dX7_weather_65 ml_X7_132 (hr_Kp (Nat.le_refl d)) rfl rfl (mM (by decide) (by decide) rfl) rfl rfl (Nat.le_of_ble_eq_true rfl) h (fun x_4 V_3 h => ?_)
      exact go_iret rfl dX7_weather_68 h
    · have h := h.2 c_7
      refine go_bipush (v := 11) dX7_weather_55 (by decide) ?_
      refine go_goto (tgt := 62) dX7_weather_57 (by decide) ?_
      refine go_iload_n (q := 1) dX7_weather_62 rfl rfl ?_
      refine go_iadd dX7_weather_63 ?_
      refine go_iload_n (q := 3) dX7_weather_64 rfl rfl ?_
      refine go_cVI (As := [aI (11 + x1), aI x3]) (st := []) (r := 24) (i := 0) mv_X7_becomes dX7_weather_65 ml_X7_132 (hr_Kp (Nat.le_refl d)) rfl rfl (mM (by decide) (by decide) rfl) rfl rfl (Nat.le_of_ble_eq_true rfl) h (fun x_6 V_5 h => ?_)
      exact go_iret rfl dX7_weather_68 h
  · have h := h.2 c_8
    refine go_ldc dX7_weather_47 ct_X7_84 ?_
    exact go_iret rfl dX7_weather_49 h
def wpX7_weather_30 (C : CT)   (x1 : Int32) (x2 : Int32) (x3 : Int32) (s0 : Int32) (s1 : Int32) (V : Mem) (Q : Option AV → Mem → Prop) : Prop :=
  ((¬ x2 = 0 → wpX7_weather_41 C   x1 x2 x3 9 s0 s1 V Q) ∧ (x2 = 0 → wpX7_weather_41 C   x1 x2 x3 20 s0 s1 V Q))
set_option maxRecDepth 10000 in
theorem okX7_weather_30 {d : Nat} {P : Option AV → Mem → Prop}    (x1 : Int32) (x2 : Int32) (x3 : Int32) (s0 : Int32) (s1 : Int32)  (V : Mem)  (h : wpX7_weather_30 (Cl UM d)   x1 x2 x3 s0 s1 V P) : Gq (Kp (d + 1) mX7_weather UM P) UM cX7_weather 4 RX7 30 [(0, aR 24 0), (1, aI x1), (2, aI x2), (3, aI x3)] [aI s0, aI s1] V := by
  unfold wpX7_weather_30 at h
  refine go_iload_n (q := 2) dX7_weather_30 rfl rfl ?_
  refine go_if_ne (tgt := 39) dX7_weather_31 (by decide) (fun c_1 => ?_) (fun c_1 => ?_)
  · have h := h.1 c_1
    refine go_bipush (v := 9) dX7_weather_39 (by decide) ?_
    exact okX7_weather_41   x1 x2 x3 9 s0 s1  V  h
  · have h := h.2 c_1
    refine go_bipush (v := 20) dX7_weather_34 (by decide) ?_
    refine go_goto (tgt := 41) dX7_weather_36 (by decide) ?_
    exact okX7_weather_41   x1 x2 x3 20 s0 s1  V  h
def wpX7_weather_0 (C : CT)   (x1 : Int32) (x2 : Int32) (x3 : Int32) (V : Mem) (Q : Option AV → Mem → Prop) : Prop :=
  (cI C mX7_in [aI x1, aI 0, aI 23] V (fun x_2 V_1 => ((x_2 = 0 → Q (some (aI (-1000000001))) V_1) ∧ (¬ x_2 = 0 → (cI C mX7_in [aI x2, aI 0, aI 1] V_1 (fun x_4 V_3 => ((x_4 = 0 → Q (some (aI (-1000000001))) V_3) ∧ (¬ x_4 = 0 → ((¬ x2 = 0 → wpX7_weather_30 C   x1 x2 x3 0 x3 V_3 Q) ∧ (x2 = 0 → wpX7_weather_30 C   x1 x2 x3 (-20) x3 V_3 Q))))))))))
set_option maxRecDepth 10000 in
theorem okX7_weather_0 {d : Nat} {P : Option AV → Mem → Prop}    (x1 : Int32) (x2 : Int32) (x3 : Int32)  (V : Mem)  (h : wpX7_weather_0 (Cl UM d)   x1 x2 x3 V P) : Gq (Kp (d + 1) mX7_weather UM P) UM cX7_weather 4 RX7 0 [(0, aR 24 0), (1, aI x1), (2, aI x2), (3, aI x3)] [] V := by
  unfold wpX7_weather_0 at h
  refine go_iload_n (q := 1) dX7_weather_0 rfl rfl ?_
  refine go_iconst (v := 0) dX7_weather_1 (by decide) ?_
  refine go_bipush (v := 23) dX7_weather_2 (by decide) ?_
  refine go_cSI (As := [aI x1, aI 0, aI 23]) (st := []) ms_X7_in dX7_weather_4 ml_X7_76 (hr_Kp (Nat.le_refl d)) rfl rfl (Nat.le_of_ble_eq_true rfl) h (fun x_2 V_1 h => ?_)
  refine go_if_eq (tgt := 47) dX7_weather_7 (by decide) (fun c_7 => ?_) (fun c_7 => ?_)
  · have h := h.1 c_7
    refine go_ldc dX7_weather_47 ct_X7_84 ?_
    exact go_iret rfl dX7_weather_49 h
  · have h := h.2 c_7
    refine go_iload_n (q := 2) dX7_weather_10 rfl rfl ?_
    refine go_iconst (v := 0) dX7_weather_11 (by decide) ?_
    refine go_iconst (v := 1) dX7_weather_12 (by decide) ?_
    refine go_cSI (As := [aI x2, aI 0, aI 1]) (st := []) ms_X7_in dX7_weather_13 ml_X7_76 (hr_Kp (Nat.le_refl d)) rfl rfl (Nat.le_of_ble_eq_true rfl) h (fun x_4 V_3 h => ?_)
    refine go_if_eq (tgt := 47) dX7_weather_16 (by decide) (fun c_6 => ?_) (fun c_6 => ?_)
    · have h := h.1 c_6
      refine go_ldc dX7_weather_47 ct_X7_84 ?_
      exact go_iret rfl dX7_weather_49 h
    · have h := h.2 c_6
      refine go_iload_n (q := 3) dX7_weather_19 rfl rfl ?_
      refine go_iload_n (q := 2) dX7_weather_20 rfl rfl ?_
      refine go_if_ne (tgt := 29) dX7_weather_21 (by decide) (fun c_5 => ?_) (fun c_5 => ?_)
      · have h := h.1 c_5
        refine go_iconst (v := 0) dX7_weather_29 (by decide) ?_
        exact okX7_weather_30   x1 x2 x3 0 x3  V_3  h
      · have h := h.2 c_5
        refine go_bipush (v := (-20)) dX7_weather_24 (by decide) ?_
        refine go_goto (tgt := 30) dX7_weather_26 (by decide) ?_
        exact okX7_weather_30   x1 x2 x3 (-20) x3  V_3  h
theorem clX7_weather {d : Nat} {P : Option AV → Mem → Prop}    (x1 : Int32) (x2 : Int32) (x3 : Int32) (V : Mem)  (h : wpX7_weather_0 (Cl UM d)   x1 x2 x3 V P) : Cl UM (d + 1) mX7_weather [aR 24 0, aI x1, aI x2, aI x3] V P :=
  cl_of [(0, aR 24 0), (1, aI x1), (2, aI x2), (3, aI x3)] (by decide) (fun _ => Nat.le_of_ble_eq_true rfl) (fun _ => rfl) (okX7_weather_0   x1 x2 x3 V  h)
theorem dX7_sky_0 : decode cX7_sky 0 = .ok (.iconst 0, 1) := by decide +kernel
theorem dX7_sky_1 : decode cX7_sky 1 = .ok (.istore_n 1, 1) := by decide +kernel
theorem dX7_sky_2 : decode cX7_sky 2 = .ok (.iconst 0, 1) := by decide +kernel
theorem dX7_sky_3 : decode cX7_sky 3 = .ok (.istore_n 2, 1) := by decide +kernel
theorem dX7_sky_4 : decode cX7_sky 4 = .ok (.iload_n 2, 1) := by decide +kernel
theorem dX7_sky_5 : decode cX7_sky 5 = .ok (.bipush 24, 2) := by decide +kernel
theorem dX7_sky_7 : decode cX7_sky 7 = .ok (.if_icmp .ge 56, 3) := by decide +kernel
theorem dX7_sky_10 : decode cX7_sky 10 = .ok (.aload_n 0, 1) := by decide +kernel
theorem dX7_sky_11 : decode cX7_sky 11 = .ok (.getfield 9, 3) := by decide +kernel
theorem dX7_sky_14 : decode cX7_sky 14 = .ok (.bipush 11, 2) := by decide +kernel
theorem dX7_sky_16 : decode cX7_sky 16 = .ok (.iload_n 2, 1) := by decide +kernel
theorem dX7_sky_17 : decode cX7_sky 17 = .ok (.iadd, 1) := by decide +kernel
theorem dX7_sky_18 : decode cX7_sky 18 = .ok (.aload_n 0, 1) := by decide +kernel
theorem dX7_sky_19 : decode cX7_sky 19 = .ok (.invokevirtual 140, 3) := by decide +kernel
theorem dX7_sky_22 : decode cX7_sky 22 = .ok (.bipush 21, 2) := by decide +kernel
theorem dX7_sky_24 : decode cX7_sky 24 = .ok (.irem, 1) := by decide +kernel
theorem dX7_sky_25 : decode cX7_sky 25 = .ok (.bipush 10, 2) := by decide +kernel
theorem dX7_sky_27 : decode cX7_sky 27 = .ok (.isub, 1) := by decide +kernel
theorem dX7_sky_28 : decode cX7_sky 28 = .ok (.iastore, 1) := by decide +kernel
theorem dX7_sky_29 : decode cX7_sky 29 = .ok (.aload_n 0, 1) := by decide +kernel
theorem dX7_sky_30 : decode cX7_sky 30 = .ok (.getfield 9, 3) := by decide +kernel
theorem dX7_sky_33 : decode cX7_sky 33 = .ok (.bipush 35, 2) := by decide +kernel
theorem dX7_sky_35 : decode cX7_sky 35 = .ok (.iload_n 2, 1) := by decide +kernel
theorem dX7_sky_36 : decode cX7_sky 36 = .ok (.iadd, 1) := by decide +kernel
theorem dX7_sky_37 : decode cX7_sky 37 = .ok (.aload_n 0, 1) := by decide +kernel
theorem dX7_sky_38 : decode cX7_sky 38 = .ok (.invokevirtual 140, 3) := by decide +kernel
theorem dX7_sky_41 : decode cX7_sky 41 = .ok (.bipush 10, 2) := by decide +kernel
theorem dX7_sky_43 : decode cX7_sky 43 = .ok (.irem, 1) := by decide +kernel
theorem dX7_sky_44 : decode cX7_sky 44 = .ok (.iastore, 1) := by decide +kernel
theorem dX7_sky_45 : decode cX7_sky 45 = .ok (.iload_n 1, 1) := by decide +kernel
theorem dX7_sky_46 : decode cX7_sky 46 = .ok (.aload_n 0, 1) := by decide +kernel
theorem dX7_sky_47 : decode cX7_sky 47 = .ok (.getfield 9, 3) := by decide +kernel
theorem dX7_sky_50 : decode cX7_sky 50 = .ok (.bipush 35, 2) := by decide +kernel
theorem dX7_sky_52 : decode cX7_sky 52 = .ok (.iload_n 2, 1) := by decide +kernel
theorem dX7_sky_53 : decode cX7_sky 53 = .ok (.iadd, 1) := by decide +kernel
theorem dX7_sky_54 : decode cX7_sky 54 = .ok (.iaload, 1) := by decide +kernel
theorem dX7_sky_55 : decode cX7_sky 55 = .ok (.iadd, 1) := by decide +kernel
theorem dX7_sky_56 : decode cX7_sky 56 = .ok (.istore_n 1, 1) := by decide +kernel
theorem dX7_sky_57 : decode cX7_sky 57 = .ok (.iinc 2 1, 3) := by decide +kernel
theorem dX7_sky_60 : decode cX7_sky 60 = .ok (.goto (-56), 3) := by decide +kernel
theorem dX7_sky_63 : decode cX7_sky 63 = .ok (.iload_n 1, 1) := by decide +kernel
theorem dX7_sky_64 : decode cX7_sky 64 = .ok (.ireturn, 1) := by decide +kernel
def wpX7_sky_4 (C : CT) (I4 : Int32 → Int32 → Mem → Prop)  (x1 : Int32) (x2 : Int32) (V : Mem) (Q : Option AV → Mem → Prop) : Prop :=
  ((24 ≤ x2 → Q (some (aI x1)) V) ∧ (¬ 24 ≤ x2 → (cI C mX7_draw [aR 24 0] V (fun x_2 V_1 => (∀ z_3 : Int32, z_3 = (x_2 - x_2 / 21 * 21) → (∃ j_4 : Nat, (11 + x2) = nI j_4 ∧ j_4 < 1479 ∧ (∀ V_5 : Mem, V_5 = mu V_1 25 0 j_4 (z_3 - 10) → (cI C mX7_draw [aR 24 0] V_5 (fun x_7 V_6 => (∀ z_8 : Int32, z_8 = (x_7 - x_7 / 10 * 10) → (∃ j_9 : Nat, (35 + x2) = nI j_9 ∧ j_9 < 1479 ∧ (∀ V_10 : Mem, V_10 = mu V_6 25 0 j_9 z_8 → (∀ z_11 : Int32, z_11 = (x1 + (V_10 25 0 j_9)) → I4 z_11 (x2 + 1) V_10)))))))))))))
set_option maxRecDepth 10000 in
theorem okX7_sky_4 {d : Nat} {P : Option AV → Mem → Prop} {I4 : Int32 → Int32 → Mem → Prop}   (x1 : Int32) (x2 : Int32)  (V : Mem) (hk4 : ∀ (x1 : Int32) (x2 : Int32), ∀ (V : Mem), I4 x1 x2 V → Gq (Kp (d + 1) mX7_sky UM P) UM cX7_sky 3 RX7 4 [(0, aR 24 0), (1, aI x1), (2, aI x2)] [] V) (h : wpX7_sky_4 (Cl UM d) I4  x1 x2 V P) : Gq (Kp (d + 1) mX7_sky UM P) UM cX7_sky 3 RX7 4 [(0, aR 24 0), (1, aI x1), (2, aI x2)] [] V := by
  unfold wpX7_sky_4 at h
  refine go_iload_n (q := 2) dX7_sky_4 rfl rfl ?_
  refine go_bipush (v := 24) dX7_sky_5 (by decide) ?_
  refine go_icmp_ge (tgt := 63) dX7_sky_7 (by decide) (fun c_12 => ?_) (fun c_12 => ?_)
  · have h := h.1 c_12
    refine go_iload_n (q := 1) dX7_sky_63 rfl rfl ?_
    exact go_iret rfl dX7_sky_64 h
  · have h := h.2 c_12
    refine go_aload_n (q := 0) dX7_sky_10 rfl rfl ?_
    refine go_getr fg_X7_9 dX7_sky_11 (mM (by decide) (by decide) rfl) ?_
    refine go_bipush (v := 11) dX7_sky_14 (by decide) ?_
    refine go_iload_n (q := 2) dX7_sky_16 rfl rfl ?_
    refine go_iadd dX7_sky_17 ?_
    refine go_aload_n (q := 0) dX7_sky_18 rfl rfl ?_
    refine go_cVI (As := []) (st := [aI (11 + x2), aR 25 0]) (r := 24) (i := 0) mv_X7_draw dX7_sky_19 ml_X7_140 (hr_Kp (Nat.le_refl d)) rfl rfl (mM (by decide) (by decide) rfl) rfl rfl (Nat.le_of_ble_eq_true rfl) h (fun x_2 V_1 h => ?_)
    refine go_bipush (v := 21) dX7_sky_22 (by decide) ?_
    refine go_irem dX7_sky_24 (by decide) ?_
    refine nmI (fun z_3 e_z_3 => ?_)
    have h := h z_3 e_z_3
    refine go_bipush (v := 10) dX7_sky_25 (by decide) ?_
    refine go_isub dX7_sky_27 ?_
    obtain ⟨j_4, e_j_4, l_j_4, h⟩ := h
    refine go_iast (r := 25) (n := 1479) (j := j_4) rfl (by decide) dX7_sky_28 (mM (by decide) (by decide) rfl) e_j_4 l_j_4 ?_
    refine nmV (fun V_5 e_V_5 => ?_)
    have h := h V_5 e_V_5
    refine go_aload_n (q := 0) dX7_sky_29 rfl rfl ?_
    refine go_getr fg_X7_9 dX7_sky_30 (mM (by decide) (by decide) rfl) ?_
    refine go_bipush (v := 35) dX7_sky_33 (by decide) ?_
    refine go_iload_n (q := 2) dX7_sky_35 rfl rfl ?_
    refine go_iadd dX7_sky_36 ?_
    refine go_aload_n (q := 0) dX7_sky_37 rfl rfl ?_
    refine go_cVI (As := []) (st := [aI (35 + x2), aR 25 0]) (r := 24) (i := 0) mv_X7_draw dX7_sky_38 ml_X7_140 (hr_Kp (Nat.le_refl d)) rfl rfl (mM (by decide) (by decide) rfl) rfl rfl (Nat.le_of_ble_eq_true rfl) h (fun x_7 V_6 h => ?_)
    refine go_bipush (v := 10) dX7_sky_41 (by decide) ?_
    refine go_irem dX7_sky_43 (by decide) ?_
    refine nmI (fun z_8 e_z_8 => ?_)
    have h := h z_8 e_z_8
    obtain ⟨j_9, e_j_9, l_j_9, h⟩ := h
    refine go_iast (r := 25) (n := 1479) (j := j_9) rfl (by decide) dX7_sky_44 (mM (by decide) (by decide) rfl) e_j_9 l_j_9 ?_
    refine nmV (fun V_10 e_V_10 => ?_)
    have h := h V_10 e_V_10
    refine go_iload_n (q := 1) dX7_sky_45 rfl rfl ?_
    refine go_aload_n (q := 0) dX7_sky_46 rfl rfl ?_
    refine go_getr fg_X7_9 dX7_sky_47 (mM (by decide) (by decide) rfl) ?_
    refine go_bipush (v := 35) dX7_sky_50 (by decide) ?_
    refine go_iload_n (q := 2) dX7_sky_52 rfl rfl ?_
    refine go_iadd dX7_sky_53 ?_
    refine go_iald (r := 25) (n := 1479) (j := j_9) rfl (by decide) dX7_sky_54 (mM (by decide) (by decide) rfl) e_j_9 (by omega) ?_
    refine go_iadd dX7_sky_55 ?_
    refine nmI (fun z_11 e_z_11 => ?_)
    have h := h z_11 e_z_11
    refine go_istore_n (al1 := [(1, aI z_11), (0, aR 24 0), (2, aI x2)]) dX7_sky_56 rfl (by decide) rfl ?_
    refine go_iinc (q := 2) (y := 1) (al1 := [(2, aI (x2 + 1)), (1, aI z_11), (0, aR 24 0)]) dX7_sky_57 rfl (by decide) (by decide) rfl ?_
    refine go_goto (tgt := 4) dX7_sky_60 (by decide) ?_
    refine go_sub (al1 := [(0, aR 24 0), (1, aI z_11), (2, aI (x2 + 1))]) [2, 1, 0] rfl ?_
    exact hk4 z_11 (x2 + 1)  V_10 h
def wpX7_sky_0 (C : CT) (I4 : Int32 → Int32 → Mem → Prop)   (V : Mem) (Q : Option AV → Mem → Prop) : Prop :=
  I4 0 0 V
set_option maxRecDepth 10000 in
theorem okX7_sky_0 {d : Nat} {P : Option AV → Mem → Prop} {I4 : Int32 → Int32 → Mem → Prop}     (V : Mem) (hk4 : ∀ (x1 : Int32) (x2 : Int32), ∀ (V : Mem), I4 x1 x2 V → Gq (Kp (d + 1) mX7_sky UM P) UM cX7_sky 3 RX7 4 [(0, aR 24 0), (1, aI x1), (2, aI x2)] [] V) (h : wpX7_sky_0 (Cl UM d) I4   V P) : Gq (Kp (d + 1) mX7_sky UM P) UM cX7_sky 3 RX7 0 [(0, aR 24 0)] [] V := by
  unfold wpX7_sky_0 at h
  refine go_iconst (v := 0) dX7_sky_0 (by decide) ?_
  refine go_istore_n (al1 := [(1, aI 0), (0, aR 24 0)]) dX7_sky_1 rfl (by decide) rfl ?_
  refine go_iconst (v := 0) dX7_sky_2 (by decide) ?_
  refine go_istore_n (al1 := [(2, aI 0), (1, aI 0), (0, aR 24 0)]) dX7_sky_3 rfl (by decide) rfl ?_
  refine go_sub (al1 := [(0, aR 24 0), (1, aI 0), (2, aI 0)]) [2, 1, 0] rfl ?_
  exact hk4 0 0  V h
theorem clX7_sky {d : Nat} {P : Option AV → Mem → Prop} {I4 : Int32 → Int32 → Mem → Prop}    (V : Mem) (hk4 : ∀ (x1 : Int32) (x2 : Int32), ∀ (V : Mem), I4 x1 x2 V → Gq (Kp (d + 1) mX7_sky UM P) UM cX7_sky 3 RX7 4 [(0, aR 24 0), (1, aI x1), (2, aI x2)] [] V) (h : wpX7_sky_0 (Cl UM d) I4   V P) : Cl UM (d + 1) mX7_sky [aR 24 0] V P :=
  cl_of [(0, aR 24 0)] (by decide) (fun _ => Nat.le_of_ble_eq_true rfl) (fun _ => rfl) (okX7_sky_0    V hk4 h)
theorem dX7_sunset_0 : decode cX7_sunset 0 = .ok (.iload_n 1, 1) := by decide +kernel
theorem dX7_sunset_1 : decode cX7_sunset 1 = .ok (.iconst 0, 1) := by decide +kernel
theorem dX7_sunset_2 : decode cX7_sunset 2 = .ok (.bipush 24, 2) := by decide +kernel
theorem dX7_sunset_4 : decode cX7_sunset 4 = .ok (.invokestatic 76, 3) := by decide +kernel
theorem dX7_sunset_7 : decode cX7_sunset 7 = .ok (.ifCond .eq 12, 3) := by decide +kernel
theorem dX7_sunset_10 : decode cX7_sunset 10 = .ok (.aload_n 0, 1) := by decide +kernel
theorem dX7_sunset_11 : decode cX7_sunset 11 = .ok (.iconst 3, 1) := by decide +kernel
theorem dX7_sunset_12 : decode cX7_sunset 12 = .ok (.iload_n 1, 1) := by decide +kernel
theorem dX7_sunset_13 : decode cX7_sunset 13 = .ok (.invokevirtual 132, 3) := by decide +kernel
theorem dX7_sunset_16 : decode cX7_sunset 16 = .ok (.goto 5, 3) := by decide +kernel
theorem dX7_sunset_19 : decode cX7_sunset 19 = .ok (.ldc 84, 2) := by decide +kernel
theorem dX7_sunset_21 : decode cX7_sunset 21 = .ok (.ireturn, 1) := by decide +kernel
def wpX7_sunset_0 (C : CT)   (x1 : Int32) (V : Mem) (Q : Option AV → Mem → Prop) : Prop :=
  (cI C mX7_in [aI x1, aI 0, aI 24] V (fun x_2 V_1 => ((x_2 = 0 → Q (some (aI (-1000000001))) V_1) ∧ (¬ x_2 = 0 → (cI C mX7_becomes [aR 24 0, aI 3, aI x1] V_1 (fun x_4 V_3 => Q (some (aI x_4)) V_3))))))
set_option maxRecDepth 10000 in
theorem okX7_sunset_0 {d : Nat} {P : Option AV → Mem → Prop}    (x1 : Int32)  (V : Mem)  (h : wpX7_sunset_0 (Cl UM d)   x1 V P) : Gq (Kp (d + 1) mX7_sunset UM P) UM cX7_sunset 2 RX7 0 [(0, aR 24 0), (1, aI x1)] [] V := by
  unfold wpX7_sunset_0 at h
  refine go_iload_n (q := 1) dX7_sunset_0 rfl rfl ?_
  refine go_iconst (v := 0) dX7_sunset_1 (by decide) ?_
  refine go_bipush (v := 24) dX7_sunset_2 (by decide) ?_
  refine go_cSI (As := [aI x1, aI 0, aI 24]) (st := []) ms_X7_in dX7_sunset_4 ml_X7_76 (hr_Kp (Nat.le_refl d)) rfl rfl (Nat.le_of_ble_eq_true rfl) h (fun x_2 V_1 h => ?_)
  refine go_if_eq (tgt := 19) dX7_sunset_7 (by decide) (fun c_5 => ?_) (fun c_5 => ?_)
  · have h := h.1 c_5
    refine go_ldc dX7_sunset_19 ct_X7_84 ?_
    exact go_iret rfl dX7_sunset_21 h
  · have h := h.2 c_5
    refine go_aload_n (q := 0) dX7_sunset_10 rfl rfl ?_
    refine go_iconst (v := 3) dX7_sunset_11 (by decide) ?_
    refine go_iload_n (q := 1) dX7_sunset_12 rfl rfl ?_
    refine go_cVI (As := [aI 3, aI x1]) (st := []) (r := 24) (i := 0) mv_X7_becomes dX7_sunset_13 ml_X7_132 (hr_Kp (Nat.le_refl d)) rfl rfl (mM (by decide) (by decide) rfl) rfl rfl (Nat.le_of_ble_eq_true rfl) h (fun x_4 V_3 h => ?_)
    refine go_goto (tgt := 21) dX7_sunset_16 (by decide) ?_
    exact go_iret rfl dX7_sunset_21 h
theorem clX7_sunset {d : Nat} {P : Option AV → Mem → Prop}    (x1 : Int32) (V : Mem)  (h : wpX7_sunset_0 (Cl UM d)   x1 V P) : Cl UM (d + 1) mX7_sunset [aR 24 0, aI x1] V P :=
  cl_of [(0, aR 24 0), (1, aI x1)] (by decide) (fun _ => Nat.le_of_ble_eq_true rfl) (fun _ => rfl) (okX7_sunset_0   x1 V  h)
theorem dX7_snows_0 : decode cX7_snows 0 = .ok (.aload_n 0, 1) := by decide +kernel
theorem dX7_snows_1 : decode cX7_snows 1 = .ok (.iload_n 1, 1) := by decide +kernel
theorem dX7_snows_2 : decode cX7_snows 2 = .ok (.iconst 5, 1) := by decide +kernel
theorem dX7_snows_3 : decode cX7_snows 3 = .ok (.invokevirtual 94, 3) := by decide +kernel
theorem dX7_snows_6 : decode cX7_snows 6 = .ok (.iload_n 2, 1) := by decide +kernel
theorem dX7_snows_7 : decode cX7_snows 7 = .ok (.iadd, 1) := by decide +kernel
theorem dX7_snows_8 : decode cX7_snows 8 = .ok (.istore_n 3, 1) := by decide +kernel
theorem dX7_snows_9 : decode cX7_snows 9 = .ok (.aload_n 0, 1) := by decide +kernel
theorem dX7_snows_10 : decode cX7_snows 10 = .ok (.iload_n 1, 1) := by decide +kernel
theorem dX7_snows_11 : decode cX7_snows 11 = .ok (.iconst 5, 1) := by decide +kernel
theorem dX7_snows_12 : decode cX7_snows 12 = .ok (.iload_n 3, 1) := by decide +kernel
theorem dX7_snows_13 : decode cX7_snows 13 = .ok (.iconst 0, 1) := by decide +kernel
theorem dX7_snows_14 : decode cX7_snows 14 = .ok (.sipush 9999, 3) := by decide +kernel
theorem dX7_snows_17 : decode cX7_snows 17 = .ok (.invokestatic 104, 3) := by decide +kernel
theorem dX7_snows_20 : decode cX7_snows 20 = .ok (.invokevirtual 80, 3) := by decide +kernel
theorem dX7_snows_23 : decode cX7_snows 23 = .ok (.aload_n 0, 1) := by decide +kernel
theorem dX7_snows_24 : decode cX7_snows 24 = .ok (.getfield 9, 3) := by decide +kernel
theorem dX7_snows_27 : decode cX7_snows 27 = .ok (.iconst 4, 1) := by decide +kernel
theorem dX7_snows_28 : decode cX7_snows 28 = .ok (.dup2, 1) := by decide +kernel
theorem dX7_snows_29 : decode cX7_snows 29 = .ok (.iaload, 1) := by decide +kernel
theorem dX7_snows_30 : decode cX7_snows 30 = .ok (.iload_n 3, 1) := by decide +kernel
theorem dX7_snows_31 : decode cX7_snows 31 = .ok (.aload_n 0, 1) := by decide +kernel
theorem dX7_snows_32 : decode cX7_snows 32 = .ok (.iload_n 1, 1) := by decide +kernel
theorem dX7_snows_33 : decode cX7_snows 33 = .ok (.iconst 5, 1) := by decide +kernel
theorem dX7_snows_34 : decode cX7_snows 34 = .ok (.invokevirtual 94, 3) := by decide +kernel
theorem dX7_snows_37 : decode cX7_snows 37 = .ok (.isub, 1) := by decide +kernel
theorem dX7_snows_38 : decode cX7_snows 38 = .ok (.iadd, 1) := by decide +kernel
theorem dX7_snows_39 : decode cX7_snows 39 = .ok (.iastore, 1) := by decide +kernel
theorem dX7_snows_40 : decode cX7_snows 40 = .ok (.return_, 1) := by decide +kernel
def wpX7_snows_0 (C : CT)   (x1 : Int32) (x2 : Int32) (V : Mem) (Q : Option AV → Mem → Prop) : Prop :=
  (cI C mX7_of [aR 24 0, aI x1, aI 5] V (fun x_2 V_1 => (∀ z_3 : Int32, z_3 = (x_2 + x2) → (cI C mX7_within [aI z_3, aI 0, aI 9999] V_1 (fun x_5 V_4 => (cV C mX7_put [aR 24 0, aI x1, aI 5, aI x_5] V_4 (fun V_6 => (cI C mX7_of [aR 24 0, aI x1, aI 5] V_6 (fun x_8 V_7 => (∀ V_9 : Mem, V_9 = mu V_7 25 0 4 ((V_6 25 0 4) + (z_3 - x_8)) → Q none V_9))))))))))
set_option maxRecDepth 10000 in
theorem okX7_snows_0 {d : Nat} {P : Option AV → Mem → Prop}    (x1 : Int32) (x2 : Int32)  (V : Mem)  (h : wpX7_snows_0 (Cl UM d)   x1 x2 V P) : Gq (Kp (d + 1) mX7_snows UM P) UM cX7_snows 4 RX7 0 [(0, aR 24 0), (1, aI x1), (2, aI x2)] [] V := by
  unfold wpX7_snows_0 at h
  refine go_aload_n (q := 0) dX7_snows_0 rfl rfl ?_
  refine go_iload_n (q := 1) dX7_snows_1 rfl rfl ?_
  refine go_iconst (v := 5) dX7_snows_2 (by decide) ?_
  refine go_cVI (As := [aI x1, aI 5]) (st := []) (r := 24) (i := 0) mv_X7_of dX7_snows_3 ml_X7_94 (hr_Kp (Nat.le_refl d)) rfl rfl (mM (by decide) (by decide) rfl) rfl rfl (Nat.le_of_ble_eq_true rfl) h (fun x_2 V_1 h => ?_)
  refine go_iload_n (q := 2) dX7_snows_6 rfl rfl ?_
  refine go_iadd dX7_snows_7 ?_
  refine nmI (fun z_3 e_z_3 => ?_)
  have h := h z_3 e_z_3
  refine go_istore_n (al1 := [(3, aI z_3), (0, aR 24 0), (1, aI x1), (2, aI x2)]) dX7_snows_8 rfl (by decide) rfl ?_
  refine go_aload_n (q := 1) dX7_snows_9 rfl rfl ?_
  refine go_iload_n (q := 2) dX7_snows_10 rfl rfl ?_
  refine go_iconst (v := 5) dX7_snows_11 (by decide) ?_
  refine go_iload_n (q := 0) dX7_snows_12 rfl rfl ?_
  refine go_iconst (v := 0) dX7_snows_13 (by decide) ?_
  refine go_sipush (v := 9999) dX7_snows_14 (by decide) ?_
  refine go_cSI (As := [aI z_3, aI 0, aI 9999]) (st := [aI 5, aI x1, aR 24 0]) ms_X7_within dX7_snows_17 ml_X7_104 (hr_Kp (Nat.le_refl d)) rfl rfl (Nat.le_of_ble_eq_true rfl) h (fun x_5 V_4 h => ?_)
  refine go_cVV (As := [aI x1, aI 5, aI x_5]) (st := []) (r := 24) (i := 0) mv_X7_put dX7_snows_20 ml_X7_80 (hr_Kp (Nat.le_refl d)) rfl rfl (mM (by decide) (by decide) rfl) rfl rfl (Nat.le_of_ble_eq_true rfl) h (fun V_6 h => ?_)
  refine go_aload_n (q := 1) dX7_snows_23 rfl rfl ?_
  refine go_getr fg_X7_9 dX7_snows_24 (mM (by decide) (by decide) rfl) ?_
  refine go_iconst (v := 4) dX7_snows_27 (by decide) ?_
  refine go_dup2 dX7_snows_28 rfl rfl ?_
  refine go_iald (r := 25) (n := 1479) (j := 4) rfl (by decide) dX7_snows_29 (mM (by decide) (by decide) rfl) (by decide) (by decide) ?_
  refine go_iload_n (q := 0) dX7_snows_30 rfl rfl ?_
  refine go_aload_n (q := 1) dX7_snows_31 rfl rfl ?_
  refine go_iload_n (q := 2) dX7_snows_32 rfl rfl ?_
  refine go_iconst (v := 5) dX7_snows_33 (by decide) ?_
  refine go_cVI (As := [aI x1, aI 5]) (st := [aI z_3, aI (V_6 25 0 4), aI 4, aR 25 0]) (r := 24) (i := 0) mv_X7_of dX7_snows_34 ml_X7_94 (hr_Kp (Nat.le_refl d)) rfl rfl (mM (by decide) (by decide) rfl) rfl rfl (Nat.le_of_ble_eq_true rfl) h (fun x_8 V_7 h => ?_)
  refine go_isub dX7_snows_37 ?_
  refine go_iadd dX7_snows_38 ?_
  refine go_iast (r := 25) (n := 1479) (j := 4) rfl (by decide) dX7_snows_39 (mM (by decide) (by decide) rfl) (by decide) (by decide) ?_
  refine nmV (fun V_9 e_V_9 => ?_)
  have h := h V_9 e_V_9
  exact go_vret rfl dX7_snows_40 h
theorem clX7_snows {d : Nat} {P : Option AV → Mem → Prop}    (x1 : Int32) (x2 : Int32) (V : Mem)  (h : wpX7_snows_0 (Cl UM d)   x1 x2 V P) : Cl UM (d + 1) mX7_snows [aR 24 0, aI x1, aI x2] V P :=
  cl_of [(0, aR 24 0), (1, aI x1), (2, aI x2)] (by decide) (fun _ => Nat.le_of_ble_eq_true rfl) (fun _ => rfl) (okX7_snows_0   x1 x2 V  h)
theorem dX7_falls_0 : decode cX7_falls 0 = .ok (.iconst 0, 1) := by decide +kernel
theorem dX7_falls_1 : decode cX7_falls 1 = .ok (.istore_n 3, 1) := by decide +kernel
theorem dX7_falls_2 : decode cX7_falls 2 = .ok (.iload_n 3, 1) := by decide +kernel
theorem dX7_falls_3 : decode cX7_falls 3 = .ok (.aload_n 0, 1) := by decide +kernel
theorem dX7_falls_4 : decode cX7_falls 4 = .ok (.getfield 9, 3) := by decide +kernel
theorem dX7_falls_7 : decode cX7_falls 7 = .ok (.iconst 1, 1) := by decide +kernel
theorem dX7_falls_8 : decode cX7_falls 8 = .ok (.iaload, 1) := by decide +kernel
theorem dX7_falls_9 : decode cX7_falls 9 = .ok (.if_icmp .ge 59, 3) := by decide +kernel
theorem dX7_falls_12 : decode cX7_falls 12 = .ok (.iload_n 2, 1) := by decide +kernel
theorem dX7_falls_13 : decode cX7_falls 13 = .ok (.aload_n 0, 1) := by decide +kernel
theorem dX7_falls_14 : decode cX7_falls 14 = .ok (.iload_n 3, 1) := by decide +kernel
theorem dX7_falls_15 : decode cX7_falls 15 = .ok (.iconst 1, 1) := by decide +kernel
theorem dX7_falls_16 : decode cX7_falls 16 = .ok (.invokevirtual 94, 3) := by decide +kernel
theorem dX7_falls_19 : decode cX7_falls 19 = .ok (.imul, 1) := by decide +kernel
theorem dX7_falls_20 : decode cX7_falls 20 = .ok (.istore 4, 2) := by decide +kernel
theorem dX7_falls_22 : decode cX7_falls 22 = .ok (.iload_n 1, 1) := by decide +kernel
theorem dX7_falls_23 : decode cX7_falls 23 = .ok (.ifCond .le 13, 3) := by decide +kernel
theorem dX7_falls_26 : decode cX7_falls 26 = .ok (.aload_n 0, 1) := by decide +kernel
theorem dX7_falls_27 : decode cX7_falls 27 = .ok (.iload_n 3, 1) := by decide +kernel
theorem dX7_falls_28 : decode cX7_falls 28 = .ok (.iload 4, 2) := by decide +kernel
theorem dX7_falls_30 : decode cX7_falls 30 = .ok (.invokevirtual 135, 3) := by decide +kernel
theorem dX7_falls_33 : decode cX7_falls 33 = .ok (.goto 29, 3) := by decide +kernel
theorem dX7_falls_36 : decode cX7_falls 36 = .ok (.iload_n 1, 1) := by decide +kernel
theorem dX7_falls_37 : decode cX7_falls 37 = .ok (.ifCond .ge 13, 3) := by decide +kernel
theorem dX7_falls_40 : decode cX7_falls 40 = .ok (.aload_n 0, 1) := by decide +kernel
theorem dX7_falls_41 : decode cX7_falls 41 = .ok (.iload_n 3, 1) := by decide +kernel
theorem dX7_falls_42 : decode cX7_falls 42 = .ok (.iload 4, 2) := by decide +kernel
theorem dX7_falls_44 : decode cX7_falls 44 = .ok (.invokevirtual 143, 3) := by decide +kernel
theorem dX7_falls_47 : decode cX7_falls 47 = .ok (.goto 15, 3) := by decide +kernel
theorem dX7_falls_50 : decode cX7_falls 50 = .ok (.aload_n 0, 1) := by decide +kernel
theorem dX7_falls_51 : decode cX7_falls 51 = .ok (.getfield 9, 3) := by decide +kernel
theorem dX7_falls_54 : decode cX7_falls 54 = .ok (.bipush 6, 2) := by decide +kernel
theorem dX7_falls_56 : decode cX7_falls 56 = .ok (.dup2, 1) := by decide +kernel
theorem dX7_falls_57 : decode cX7_falls 57 = .ok (.iaload, 1) := by decide +kernel
theorem dX7_falls_58 : decode cX7_falls 58 = .ok (.iload 4, 2) := by decide +kernel
theorem dX7_falls_60 : decode cX7_falls 60 = .ok (.iadd, 1) := by decide +kernel
theorem dX7_falls_61 : decode cX7_falls 61 = .ok (.iastore, 1) := by decide +kernel
theorem dX7_falls_62 : decode cX7_falls 62 = .ok (.iinc 3 1, 3) := by decide +kernel
theorem dX7_falls_65 : decode cX7_falls 65 = .ok (.goto (-63), 3) := by decide +kernel
theorem dX7_falls_68 : decode cX7_falls 68 = .ok (.aload_n 0, 1) := by decide +kernel
theorem dX7_falls_69 : decode cX7_falls 69 = .ok (.getfield 9, 3) := by decide +kernel
theorem dX7_falls_72 : decode cX7_falls 72 = .ok (.iload_n 1, 1) := by decide +kernel
theorem dX7_falls_73 : decode cX7_falls 73 = .ok (.ifCond .le 7, 3) := by decide +kernel
theorem dX7_falls_76 : decode cX7_falls 76 = .ok (.iconst 5, 1) := by decide +kernel
theorem dX7_falls_77 : decode cX7_falls 77 = .ok (.goto 13, 3) := by decide +kernel
theorem dX7_falls_80 : decode cX7_falls 80 = .ok (.iload_n 1, 1) := by decide +kernel
theorem dX7_falls_81 : decode cX7_falls 81 = .ok (.ifCond .ge 7, 3) := by decide +kernel
theorem dX7_falls_84 : decode cX7_falls 84 = .ok (.iconst 4, 1) := by decide +kernel
theorem dX7_falls_85 : decode cX7_falls 85 = .ok (.goto 5, 3) := by decide +kernel
theorem dX7_falls_88 : decode cX7_falls 88 = .ok (.bipush 6, 2) := by decide +kernel
theorem dX7_falls_90 : decode cX7_falls 90 = .ok (.dup2, 1) := by decide +kernel
theorem dX7_falls_91 : decode cX7_falls 91 = .ok (.iaload, 1) := by decide +kernel
theorem dX7_falls_92 : decode cX7_falls 92 = .ok (.bipush 10, 2) := by decide +kernel
theorem dX7_falls_94 : decode cX7_falls 94 = .ok (.iload_n 2, 1) := by decide +kernel
theorem dX7_falls_95 : decode cX7_falls 95 = .ok (.imul, 1) := by decide +kernel
theorem dX7_falls_96 : decode cX7_falls 96 = .ok (.iadd, 1) := by decide +kernel
theorem dX7_falls_97 : decode cX7_falls 97 = .ok (.iastore, 1) := by decide +kernel
theorem dX7_falls_98 : decode cX7_falls 98 = .ok (.return_, 1) := by decide +kernel
def wpX7_falls_90 (C : CT) (I2 : Int32 → Int32 → Int32 → Mem → Prop)  (x1 : Int32) (x2 : Int32) (x3 : Int32) (s0 : Int32) (V : Mem) (Q : Option AV → Mem → Prop) : Prop :=
  (∃ j_1 : Nat, s0 = nI j_1 ∧ j_1 < 1479 ∧ (∀ V_2 : Mem, V_2 = mu V 25 0 j_1 ((V 25 0 j_1) + (10 * x2)) → Q none V_2))
set_option maxRecDepth 10000 in
theorem okX7_falls_90 {d : Nat} {P : Option AV → Mem → Prop} {I2 : Int32 → Int32 → Int32 → Mem → Prop}   (x1 : Int32) (x2 : Int32) (x3 : Int32) (s0 : Int32)  (V : Mem) (hk2 : ∀ (x1 : Int32) (x2 : Int32) (x3 : Int32), ∀ (V : Mem), I2 x1 x2 x3 V → Gq (Kp (d + 1) mX7_falls UM P) UM cX7_falls 5 RX7 2 [(0, aR 24 0), (1, aI x1), (2, aI x2), (3, aI x3)] [] V) (h : wpX7_falls_90 (Cl UM d) I2  x1 x2 x3 s0 V P) : Gq (Kp (d + 1) mX7_falls UM P) UM cX7_falls 5 RX7 90 [(0, aR 24 0), (1, aI x1), (2, aI x2), (3, aI x3)] [aI s0, aR 25 0] V := by
  unfold wpX7_falls_90 at h
  refine go_dup2 dX7_falls_90 rfl rfl ?_
  obtain ⟨j_1, e_j_1, l_j_1, h⟩ := h
  refine go_iald (r := 25) (n := 1479) (j := j_1) rfl (by decide) dX7_falls_91 (mM (by decide) (by decide) rfl) e_j_1 l_j_1 ?_
  refine go_bipush (v := 10) dX7_falls_92 (by decide) ?_
  refine go_iload_n (q := 2) dX7_falls_94 rfl rfl ?_
  refine go_imul dX7_falls_95 ?_
  refine go_iadd dX7_falls_96 ?_
  refine go_iast (r := 25) (n := 1479) (j := j_1) rfl (by decide) dX7_falls_97 (mM (by decide) (by decide) rfl) e_j_1 (by omega) ?_
  refine nmV (fun V_2 e_V_2 => ?_)
  have h := h V_2 e_V_2
  exact go_vret rfl dX7_falls_98 h
def wpX7_falls_2 (C : CT) (I2 : Int32 → Int32 → Int32 → Mem → Prop)  (x1 : Int32) (x2 : Int32) (x3 : Int32) (V : Mem) (Q : Option AV → Mem → Prop) : Prop :=
  (((V 25 0 1) ≤ x3 → ((x1 ≤ 0 → ((0 ≤ x1 → wpX7_falls_90 C I2  x1 x2 x3 6 V Q) ∧ (¬ 0 ≤ x1 → wpX7_falls_90 C I2  x1 x2 x3 4 V Q))) ∧ (¬ x1 ≤ 0 → wpX7_falls_90 C I2  x1 x2 x3 5 V Q))) ∧ (¬ (V 25 0 1) ≤ x3 → (cI C mX7_of [aR 24 0, aI x3, aI 1] V (fun x_4 V_3 => (∀ z_5 : Int32, z_5 = (x2 * x_4) → ((x1 ≤ 0 → ((0 ≤ x1 → (∀ V_6 : Mem, V_6 = mu V_3 25 0 6 ((V_3 25 0 6) + z_5) → I2 x1 x2 (x3 + 1) V_6)) ∧ (¬ 0 ≤ x1 → (cV C mX7_snows [aR 24 0, aI x3, aI z_5] V_3 (fun V_7 => I2 x1 x2 (x3 + 1) V_7))))) ∧ (¬ x1 ≤ 0 → (cV C mX7_rains [aR 24 0, aI x3, aI z_5] V_3 (fun V_9 => I2 x1 x2 (x3 + 1) V_9)))))))))
set_option maxRecDepth 10000 in
theorem okX7_falls_2 {d : Nat} {P : Option AV → Mem → Prop} {I2 : Int32 → Int32 → Int32 → Mem → Prop}   (x1 : Int32) (x2 : Int32) (x3 : Int32)  (V : Mem) (hk2 : ∀ (x1 : Int32) (x2 : Int32) (x3 : Int32), ∀ (V : Mem), I2 x1 x2 x3 V → Gq (Kp (d + 1) mX7_falls UM P) UM cX7_falls 5 RX7 2 [(0, aR 24 0), (1, aI x1), (2, aI x2), (3, aI x3)] [] V) (h : wpX7_falls_2 (Cl UM d) I2  x1 x2 x3 V P) : Gq (Kp (d + 1) mX7_falls UM P) UM cX7_falls 5 RX7 2 [(0, aR 24 0), (1, aI x1), (2, aI x2), (3, aI x3)] [] V := by
  unfold wpX7_falls_2 at h
  refine go_iload_n (q := 3) dX7_falls_2 rfl rfl ?_
  refine go_aload_n (q := 0) dX7_falls_3 rfl rfl ?_
  refine go_getr fg_X7_9 dX7_falls_4 (mM (by decide) (by decide) rfl) ?_
  refine go_iconst (v := 1) dX7_falls_7 (by decide) ?_
  refine go_iald (r := 25) (n := 1479) (j := 1) rfl (by decide) dX7_falls_8 (mM (by decide) (by decide) rfl) (by decide) (by decide) ?_
  refine go_icmp_ge (tgt := 68) dX7_falls_9 (by decide) (fun c_11 => ?_) (fun c_11 => ?_)
  · have h := h.1 c_11
    refine go_aload_n (q := 0) dX7_falls_68 rfl rfl ?_
    refine go_getr fg_X7_9 dX7_falls_69 (mM (by decide) (by decide) rfl) ?_
    refine go_iload_n (q := 1) dX7_falls_72 rfl rfl ?_
    refine go_if_le (tgt := 80) dX7_falls_73 (by decide) (fun c_2 => ?_) (fun c_2 => ?_)
    · have h := h.1 c_2
      refine go_iload_n (q := 1) dX7_falls_80 rfl rfl ?_
      refine go_if_ge (tgt := 88) dX7_falls_81 (by decide) (fun c_1 => ?_) (fun c_1 => ?_)
      · have h := h.1 c_1
        refine go_bipush (v := 6) dX7_falls_88 (by decide) ?_
        exact okX7_falls_90   x1 x2 x3 6  V hk2 h
      · have h := h.2 c_1
        refine go_iconst (v := 4) dX7_falls_84 (by decide) ?_
        refine go_goto (tgt := 90) dX7_falls_85 (by decide) ?_
        exact okX7_falls_90   x1 x2 x3 4  V hk2 h
    · have h := h.2 c_2
      refine go_iconst (v := 5) dX7_falls_76 (by decide) ?_
      refine go_goto (tgt := 90) dX7_falls_77 (by decide) ?_
      exact okX7_falls_90   x1 x2 x3 5  V hk2 h
  · have h := h.2 c_11
    refine go_iload_n (q := 2) dX7_falls_12 rfl rfl ?_
    refine go_aload_n (q := 0) dX7_falls_13 rfl rfl ?_
    refine go_iload_n (q := 3) dX7_falls_14 rfl rfl ?_
    refine go_iconst (v := 1) dX7_falls_15 (by decide) ?_
    refine go_cVI (As := [aI x3, aI 1]) (st := [aI x2]) (r := 24) (i := 0) mv_X7_of dX7_falls_16 ml_X7_94 (hr_Kp (Nat.le_refl d)) rfl rfl (mM (by decide) (by decide) rfl) rfl rfl (Nat.le_of_ble_eq_true rfl) h (fun x_4 V_3 h => ?_)
    refine go_imul dX7_falls_19 ?_
    refine nmI (fun z_5 e_z_5 => ?_)
    have h := h z_5 e_z_5
    refine go_istore (al1 := [(4, aI z_5), (0, aR 24 0), (1, aI x1), (2, aI x2), (3, aI x3)]) dX7_falls_20 (by decide) rfl ?_
    refine go_iload_n (q := 2) dX7_falls_22 rfl rfl ?_
    refine go_if_le (tgt := 36) dX7_falls_23 (by decide) (fun c_10 => ?_) (fun c_10 => ?_)
    · have h := h.1 c_10
      refine go_iload_n (q := 2) dX7_falls_36 rfl rfl ?_
      refine go_if_ge (tgt := 50) dX7_falls_37 (by decide) (fun c_8 => ?_) (fun c_8 => ?_)
      · have h := h.1 c_8
        refine go_aload_n (q := 1) dX7_falls_50 rfl rfl ?_
        refine go_getr fg_X7_9 dX7_falls_51 (mM (by decide) (by decide) rfl) ?_
        refine go_bipush (v := 6) dX7_falls_54 (by decide) ?_
        refine go_dup2 dX7_falls_56 rfl rfl ?_
        refine go_iald (r := 25) (n := 1479) (j := 6) rfl (by decide) dX7_falls_57 (mM (by decide) (by decide) rfl) (by decide) (by decide) ?_
        refine go_iload (q := 0) dX7_falls_58 rfl ?_
        refine go_iadd dX7_falls_60 ?_
        refine go_iast (r := 25) (n := 1479) (j := 6) rfl (by decide) dX7_falls_61 (mM (by decide) (by decide) rfl) (by decide) (by decide) ?_
        refine nmV (fun V_6 e_V_6 => ?_)
        have h := h V_6 e_V_6
        refine go_iinc (q := 4) (y := 1) (al1 := [(3, aI (x3 + 1)), (4, aI z_5), (0, aR 24 0), (1, aI x1), (2, aI x2)]) dX7_falls_62 rfl (by decide) (by decide) rfl ?_
        refine go_goto (tgt := 2) dX7_falls_65 (by decide) ?_
        refine go_sub (al1 := [(0, aR 24 0), (1, aI x1), (2, aI x2), (3, aI (x3 + 1))]) [2, 3, 4, 0] rfl ?_
        exact hk2 x1 x2 (x3 + 1)  V_6 h
      · have h := h.2 c_8
        refine go_aload_n (q := 1) dX7_falls_40 rfl rfl ?_
        refine go_iload_n (q := 4) dX7_falls_41 rfl rfl ?_
        refine go_iload (q := 0) dX7_falls_42 rfl ?_
        refine go_cVV (As := [aI x3, aI z_5]) (st := []) (r := 24) (i := 0) mv_X7_snows dX7_falls_44 ml_X7_143 (hr_Kp (Nat.le_refl d)) rfl rfl (mM (by decide) (by decide) rfl) rfl rfl (Nat.le_of_ble_eq_true rfl) h (fun V_7 h => ?_)
        refine go_goto (tgt := 62) dX7_falls_47 (by decide) ?_
        refine go_iinc (q := 4) (y := 1) (al1 := [(3, aI (x3 + 1)), (4, aI z_5), (0, aR 24 0), (1, aI x1), (2, aI x2)]) dX7_falls_62 rfl (by decide) (by decide) rfl ?_
        refine go_goto (tgt := 2) dX7_falls_65 (by decide) ?_
        refine go_sub (al1 := [(0, aR 24 0), (1, aI x1), (2, aI x2), (3, aI (x3 + 1))]) [2, 3, 4, 0] rfl ?_
        exact hk2 x1 x2 (x3 + 1)  V_7 h
    · have h := h.2 c_10
      refine go_aload_n (q := 1) dX7_falls_26 rfl rfl ?_
      refine go_iload_n (q := 4) dX7_falls_27 rfl rfl ?_
      refine go_iload (q := 0) dX7_falls_28 rfl ?_
      refine go_cVV (As := [aI x3, aI z_5]) (st := []) (r := 24) (i := 0) mv_X7_rains dX7_falls_30 ml_X7_135 (hr_Kp (Nat.le_refl d)) rfl rfl (mM (by decide) (by decide) rfl) rfl rfl (Nat.le_of_ble_eq_true rfl) h (fun V_9 h => ?_)
      refine go_goto (tgt := 62) dX7_falls_33 (by decide) ?_
      refine go_iinc (q := 4) (y := 1) (al1 := [(3, aI (x3 + 1)), (4, aI z_5), (0, aR 24 0), (1, aI x1), (2, aI x2)]) dX7_falls_62 rfl (by decide) (by decide) rfl ?_
      refine go_goto (tgt := 2) dX7_falls_65 (by decide) ?_
      refine go_sub (al1 := [(0, aR 24 0), (1, aI x1), (2, aI x2), (3, aI (x3 + 1))]) [2, 3, 4, 0] rfl ?_
      exact hk2 x1 x2 (x3 + 1)  V_9 h
def wpX7_falls_0 (C : CT) (I2 : Int32 → Int32 → Int32 → Mem → Prop)  (x1 : Int32) (x2 : Int32) (V : Mem) (Q : Option AV → Mem → Prop) : Prop :=
  I2 x1 x2 0 V
set_option maxRecDepth 10000 in
theorem okX7_falls_0 {d : Nat} {P : Option AV → Mem → Prop} {I2 : Int32 → Int32 → Int32 → Mem → Prop}   (x1 : Int32) (x2 : Int32)  (V : Mem) (hk2 : ∀ (x1 : Int32) (x2 : Int32) (x3 : Int32), ∀ (V : Mem), I2 x1 x2 x3 V → Gq (Kp (d + 1) mX7_falls UM P) UM cX7_falls 5 RX7 2 [(0, aR 24 0), (1, aI x1), (2, aI x2), (3, aI x3)] [] V) (h : wpX7_falls_0 (Cl UM d) I2  x1 x2 V P) : Gq (Kp (d + 1) mX7_falls UM P) UM cX7_falls 5 RX7 0 [(0, aR 24 0), (1, aI x1), (2, aI x2)] [] V := by
  unfold wpX7_falls_0 at h
  refine go_iconst (v := 0) dX7_falls_0 (by decide) ?_
  refine go_istore_n (al1 := [(3, aI 0), (0, aR 24 0), (1, aI x1), (2, aI x2)]) dX7_falls_1 rfl (by decide) rfl ?_
  refine go_sub (al1 := [(0, aR 24 0), (1, aI x1), (2, aI x2), (3, aI 0)]) [1, 2, 3, 0] rfl ?_
  exact hk2 x1 x2 0  V h
theorem clX7_falls {d : Nat} {P : Option AV → Mem → Prop} {I2 : Int32 → Int32 → Int32 → Mem → Prop}   (x1 : Int32) (x2 : Int32) (V : Mem) (hk2 : ∀ (x1 : Int32) (x2 : Int32) (x3 : Int32), ∀ (V : Mem), I2 x1 x2 x3 V → Gq (Kp (d + 1) mX7_falls UM P) UM cX7_falls 5 RX7 2 [(0, aR 24 0), (1, aI x1), (2, aI x2), (3, aI x3)] [] V) (h : wpX7_falls_0 (Cl UM d) I2  x1 x2 V P) : Cl UM (d + 1) mX7_falls [aR 24 0, aI x1, aI x2] V P :=
  cl_of [(0, aR 24 0), (1, aI x1), (2, aI x2)] (by decide) (fun _ => Nat.le_of_ble_eq_true rfl) (fun _ => rfl) (okX7_falls_0   x1 x2 V hk2 h)
theorem dX7_slides_0 : decode cX7_slides 0 = .ok (.iconst 0, 1) := by decide +kernel
theorem dX7_slides_1 : decode cX7_slides 1 = .ok (.istore_n 1, 1) := by decide +kernel
theorem dX7_slides_2 : decode cX7_slides 2 = .ok (.iconst 0, 1) := by decide +kernel
theorem dX7_slides_3 : decode cX7_slides 3 = .ok (.istore_n 2, 1) := by decide +kernel
theorem dX7_slides_4 : decode cX7_slides 4 = .ok (.iload_n 2, 1) := by decide +kernel
theorem dX7_slides_5 : decode cX7_slides 5 = .ok (.aload_n 0, 1) := by decide +kernel
theorem dX7_slides_6 : decode cX7_slides 6 = .ok (.getfield 9, 3) := by decide +kernel
theorem dX7_slides_9 : decode cX7_slides 9 = .ok (.iconst 1, 1) := by decide +kernel
theorem dX7_slides_10 : decode cX7_slides 10 = .ok (.iaload, 1) := by decide +kernel
theorem dX7_slides_11 : decode cX7_slides 11 = .ok (.if_icmp .ge 78, 3) := by decide +kernel
theorem dX7_slides_14 : decode cX7_slides 14 = .ok (.aload_n 0, 1) := by decide +kernel
theorem dX7_slides_15 : decode cX7_slides 15 = .ok (.iload_n 2, 1) := by decide +kernel
theorem dX7_slides_16 : decode cX7_slides 16 = .ok (.iconst 5, 1) := by decide +kernel
theorem dX7_slides_17 : decode cX7_slides 17 = .ok (.invokevirtual 94, 3) := by decide +kernel
theorem dX7_slides_20 : decode cX7_slides 20 = .ok (.istore_n 3, 1) := by decide +kernel
theorem dX7_slides_21 : decode cX7_slides 21 = .ok (.iload_n 3, 1) := by decide +kernel
theorem dX7_slides_22 : decode cX7_slides 22 = .ok (.aload_n 0, 1) := by decide +kernel
theorem dX7_slides_23 : decode cX7_slides 23 = .ok (.iload_n 2, 1) := by decide +kernel
theorem dX7_slides_24 : decode cX7_slides 24 = .ok (.invokevirtual 118, 3) := by decide +kernel
theorem dX7_slides_27 : decode cX7_slides 27 = .ok (.if_icmp .le 56, 3) := by decide +kernel
theorem dX7_slides_30 : decode cX7_slides 30 = .ok (.iinc 1 1, 3) := by decide +kernel
theorem dX7_slides_33 : decode cX7_slides 33 = .ok (.aload_n 0, 1) := by decide +kernel
theorem dX7_slides_34 : decode cX7_slides 34 = .ok (.iload_n 2, 1) := by decide +kernel
theorem dX7_slides_35 : decode cX7_slides 35 = .ok (.iconst 5, 1) := by decide +kernel
theorem dX7_slides_36 : decode cX7_slides 36 = .ok (.iconst 0, 1) := by decide +kernel
theorem dX7_slides_37 : decode cX7_slides 37 = .ok (.invokevirtual 80, 3) := by decide +kernel
theorem dX7_slides_40 : decode cX7_slides 40 = .ok (.aload_n 0, 1) := by decide +kernel
theorem dX7_slides_41 : decode cX7_slides 41 = .ok (.iload_n 2, 1) := by decide +kernel
theorem dX7_slides_42 : decode cX7_slides 42 = .ok (.iconst 0, 1) := by decide +kernel
theorem dX7_slides_43 : decode cX7_slides 43 = .ok (.invokevirtual 94, 3) := by decide +kernel
theorem dX7_slides_46 : decode cX7_slides 46 = .ok (.iconst 3, 1) := by decide +kernel
theorem dX7_slides_47 : decode cX7_slides 47 = .ok (.if_icmp .ne 26, 3) := by decide +kernel
theorem dX7_slides_50 : decode cX7_slides 50 = .ok (.iload_n 2, 1) := by decide +kernel
theorem dX7_slides_51 : decode cX7_slides 51 = .ok (.iconst 1, 1) := by decide +kernel
theorem dX7_slides_52 : decode cX7_slides 52 = .ok (.iadd, 1) := by decide +kernel
theorem dX7_slides_53 : decode cX7_slides 53 = .ok (.aload_n 0, 1) := by decide +kernel
theorem dX7_slides_54 : decode cX7_slides 54 = .ok (.getfield 9, 3) := by decide +kernel
theorem dX7_slides_57 : decode cX7_slides 57 = .ok (.iconst 1, 1) := by decide +kernel
theorem dX7_slides_58 : decode cX7_slides 58 = .ok (.iaload, 1) := by decide +kernel
theorem dX7_slides_59 : decode cX7_slides 59 = .ok (.if_icmp .ge 14, 3) := by decide +kernel
theorem dX7_slides_62 : decode cX7_slides 62 = .ok (.aload_n 0, 1) := by decide +kernel
theorem dX7_slides_63 : decode cX7_slides 63 = .ok (.iload_n 2, 1) := by decide +kernel
theorem dX7_slides_64 : decode cX7_slides 64 = .ok (.iconst 1, 1) := by decide +kernel
theorem dX7_slides_65 : decode cX7_slides 65 = .ok (.iadd, 1) := by decide +kernel
theorem dX7_slides_66 : decode cX7_slides 66 = .ok (.iload_n 3, 1) := by decide +kernel
theorem dX7_slides_67 : decode cX7_slides 67 = .ok (.invokevirtual 143, 3) := by decide +kernel
theorem dX7_slides_70 : decode cX7_slides 70 = .ok (.goto 13, 3) := by decide +kernel
theorem dX7_slides_73 : decode cX7_slides 73 = .ok (.aload_n 0, 1) := by decide +kernel
theorem dX7_slides_74 : decode cX7_slides 74 = .ok (.getfield 9, 3) := by decide +kernel
theorem dX7_slides_77 : decode cX7_slides 77 = .ok (.iconst 4, 1) := by decide +kernel
theorem dX7_slides_78 : decode cX7_slides 78 = .ok (.dup2, 1) := by decide +kernel
theorem dX7_slides_79 : decode cX7_slides 79 = .ok (.iaload, 1) := by decide +kernel
theorem dX7_slides_80 : decode cX7_slides 80 = .ok (.iload_n 3, 1) := by decide +kernel
theorem dX7_slides_81 : decode cX7_slides 81 = .ok (.iadd, 1) := by decide +kernel
theorem dX7_slides_82 : decode cX7_slides 82 = .ok (.iastore, 1) := by decide +kernel
theorem dX7_slides_83 : decode cX7_slides 83 = .ok (.iinc 2 1, 3) := by decide +kernel
theorem dX7_slides_86 : decode cX7_slides 86 = .ok (.goto (-82), 3) := by decide +kernel
theorem dX7_slides_89 : decode cX7_slides 89 = .ok (.iload_n 1, 1) := by decide +kernel
theorem dX7_slides_90 : decode cX7_slides 90 = .ok (.ireturn, 1) := by decide +kernel
def wpX7_slides_73 (C : CT) (I4 : Int32 → Int32 → Mem → Prop)  (x1 : Int32) (x2 : Int32) (x3 : Int32) (V : Mem) (Q : Option AV → Mem → Prop) : Prop :=
  (∀ V_1 : Mem, V_1 = mu V 25 0 4 ((V 25 0 4) + x3) → I4 x1 (x2 + 1) V_1)
set_option maxRecDepth 10000 in
theorem okX7_slides_73 {d : Nat} {P : Option AV → Mem → Prop} {I4 : Int32 → Int32 → Mem → Prop}   (x1 : Int32) (x2 : Int32) (x3 : Int32)  (V : Mem) (hk4 : ∀ (x1 : Int32) (x2 : Int32), ∀ (V : Mem), I4 x1 x2 V → Gq (Kp (d + 1) mX7_slides UM P) UM cX7_slides 4 RX7 4 [(0, aR 24 0), (1, aI x1), (2, aI x2)] [] V) (h : wpX7_slides_73 (Cl UM d) I4  x1 x2 x3 V P) : Gq (Kp (d + 1) mX7_slides UM P) UM cX7_slides 4 RX7 73 [(0, aR 24 0), (1, aI x1), (2, aI x2), (3, aI x3)] [] V := by
  unfold wpX7_slides_73 at h
  refine go_aload_n (q := 0) dX7_slides_73 rfl rfl ?_
  refine go_getr fg_X7_9 dX7_slides_74 (mM (by decide) (by decide) rfl) ?_
  refine go_iconst (v := 4) dX7_slides_77 (by decide) ?_
  refine go_dup2 dX7_slides_78 rfl rfl ?_
  refine go_iald (r := 25) (n := 1479) (j := 4) rfl (by decide) dX7_slides_79 (mM (by decide) (by decide) rfl) (by decide) (by decide) ?_
  refine go_iload_n (q := 3) dX7_slides_80 rfl rfl ?_
  refine go_iadd dX7_slides_81 ?_
  refine go_iast (r := 25) (n := 1479) (j := 4) rfl (by decide) dX7_slides_82 (mM (by decide) (by decide) rfl) (by decide) (by decide) ?_
  refine nmV (fun V_1 e_V_1 => ?_)
  have h := h V_1 e_V_1
  refine go_iinc (q := 2) (y := 1) (al1 := [(2, aI (x2 + 1)), (0, aR 24 0), (1, aI x1), (3, aI x3)]) dX7_slides_83 rfl (by decide) (by decide) rfl ?_
  refine go_goto (tgt := 4) dX7_slides_86 (by decide) ?_
  refine go_sub (al1 := [(0, aR 24 0), (1, aI x1), (2, aI (x2 + 1))]) [1, 2, 0] rfl ?_
  exact hk4 x1 (x2 + 1)  V_1 h
def wpX7_slides_4 (C : CT) (I4 : Int32 → Int32 → Mem → Prop)  (x1 : Int32) (x2 : Int32) (V : Mem) (Q : Option AV → Mem → Prop) : Prop :=
  (((V 25 0 1) ≤ x2 → Q (some (aI x1)) V) ∧ (¬ (V 25 0 1) ≤ x2 → (cI C mX7_of [aR 24 0, aI x2, aI 5] V (fun x_2 V_1 => (cI C mX7_bearsOf [aR 24 0, aI x2] V_1 (fun x_4 V_3 => ((x_2 ≤ x_4 → I4 x1 (x2 + 1) V_3) ∧ (¬ x_2 ≤ x_4 → (cV C mX7_put [aR 24 0, aI x2, aI 5, aI 0] V_3 (fun V_5 => (cI C mX7_of [aR 24 0, aI x2, aI 0] V_5 (fun x_7 V_6 => ((¬ x_7 = 3 → wpX7_slides_73 C I4  (x1 + 1) x2 x_2 V_6 Q) ∧ (x_7 = 3 → (((V_6 25 0 1) ≤ (x2 + 1) → wpX7_slides_73 C I4  (x1 + 1) x2 x_2 V_6 Q) ∧ (¬ (V_6 25 0 1) ≤ (x2 + 1) → (cV C mX7_snows [aR 24 0, aI (x2 + 1), aI x_2] V_6 (fun V_8 => I4 (x1 + 1) (x2 + 1) V_8))))))))))))))))))
set_option maxRecDepth 10000 in
theorem okX7_slides_4 {d : Nat} {P : Option AV → Mem → Prop} {I4 : Int32 → Int32 → Mem → Prop}   (x1 : Int32) (x2 : Int32)  (V : Mem) (hk4 : ∀ (x1 : Int32) (x2 : Int32), ∀ (V : Mem), I4 x1 x2 V → Gq (Kp (d + 1) mX7_slides UM P) UM cX7_slides 4 RX7 4 [(0, aR 24 0), (1, aI x1), (2, aI x2)] [] V) (h : wpX7_slides_4 (Cl UM d) I4  x1 x2 V P) : Gq (Kp (d + 1) mX7_slides UM P) UM cX7_slides 4 RX7 4 [(0, aR 24 0), (1, aI x1), (2, aI x2)] [] V := by
  unfold wpX7_slides_4 at h
  refine go_iload_n (q := 2) dX7_slides_4 rfl rfl ?_
  refine go_aload_n (q := 0) dX7_slides_5 rfl rfl ?_
  refine go_getr fg_X7_9 dX7_slides_6 (mM (by decide) (by decide) rfl) ?_
  refine go_iconst (v := 1) dX7_slides_9 (by decide) ?_
  refine go_iald (r := 25) (n := 1479) (j := 1) rfl (by decide) dX7_slides_10 (mM (by decide) (by decide) rfl) (by decide) (by decide) ?_
  refine go_icmp_ge (tgt := 89) dX7_slides_11 (by decide) (fun c_12 => ?_) (fun c_12 => ?_)
  · have h := h.1 c_12
    refine go_iload_n (q := 1) dX7_slides_89 rfl rfl ?_
    exact go_iret rfl dX7_slides_90 h
  · have h := h.2 c_12
    refine go_aload_n (q := 0) dX7_slides_14 rfl rfl ?_
    refine go_iload_n (q := 2) dX7_slides_15 rfl rfl ?_
    refine go_iconst (v := 5) dX7_slides_16 (by decide) ?_
    refine go_cVI (As := [aI x2, aI 5]) (st := []) (r := 24) (i := 0) mv_X7_of dX7_slides_17 ml_X7_94 (hr_Kp (Nat.le_refl d)) rfl rfl (mM (by decide) (by decide) rfl) rfl rfl (Nat.le_of_ble_eq_true rfl) h (fun x_2 V_1 h => ?_)
    refine go_istore_n (al1 := [(3, aI x_2), (0, aR 24 0), (1, aI x1), (2, aI x2)]) dX7_slides_20 rfl (by decide) rfl ?_
    refine go_iload_n (q := 0) dX7_slides_21 rfl rfl ?_
    refine go_aload_n (q := 1) dX7_slides_22 rfl rfl ?_
    refine go_iload_n (q := 3) dX7_slides_23 rfl rfl ?_
    refine go_cVI (As := [aI x2]) (st := [aI x_2]) (r := 24) (i := 0) mv_X7_bearsOf dX7_slides_24 ml_X7_118 (hr_Kp (Nat.le_refl d)) rfl rfl (mM (by decide) (by decide) rfl) rfl rfl (Nat.le_of_ble_eq_true rfl) h (fun x_4 V_3 h => ?_)
    refine go_icmp_le (tgt := 83) dX7_slides_27 (by decide) (fun c_11 => ?_) (fun c_11 => ?_)
    · have h := h.1 c_11
      refine go_iinc (q := 3) (y := 1) (al1 := [(2, aI (x2 + 1)), (3, aI x_2), (0, aR 24 0), (1, aI x1)]) dX7_slides_83 rfl (by decide) (by decide) rfl ?_
      refine go_goto (tgt := 4) dX7_slides_86 (by decide) ?_
      refine go_sub (al1 := [(0, aR 24 0), (1, aI x1), (2, aI (x2 + 1))]) [2, 3, 0] rfl ?_
      exact hk4 x1 (x2 + 1)  V_3 h
    · have h := h.2 c_11
      refine go_iinc (q := 2) (y := 1) (al1 := [(1, aI (x1 + 1)), (3, aI x_2), (0, aR 24 0), (2, aI x2)]) dX7_slides_30 rfl (by decide) (by decide) rfl ?_
      refine go_aload_n (q := 2) dX7_slides_33 rfl rfl ?_
      refine go_iload_n (q := 3) dX7_slides_34 rfl rfl ?_
      refine go_iconst (v := 5) dX7_slides_35 (by decide) ?_
      refine go_iconst (v := 0) dX7_slides_36 (by decide) ?_
      refine go_cVV (As := [aI x2, aI 5, aI 0]) (st := []) (r := 24) (i := 0) mv_X7_put dX7_slides_37 ml_X7_80 (hr_Kp (Nat.le_refl d)) rfl rfl (mM (by decide) (by decide) rfl) rfl rfl (Nat.le_of_ble_eq_true rfl) h (fun V_5 h => ?_)
      refine go_aload_n (q := 2) dX7_slides_40 rfl rfl ?_
      refine go_iload_n (q := 3) dX7_slides_41 rfl rfl ?_
      refine go_iconst (v := 0) dX7_slides_42 (by decide) ?_
      refine go_cVI (As := [aI x2, aI 0]) (st := []) (r := 24) (i := 0) mv_X7_of dX7_slides_43 ml_X7_94 (hr_Kp (Nat.le_refl d)) rfl rfl (mM (by decide) (by decide) rfl) rfl rfl (Nat.le_of_ble_eq_true rfl) h (fun x_7 V_6 h => ?_)
      refine go_iconst (v := 3) dX7_slides_46 (by decide) ?_
      refine go_icmp_ne (tgt := 73) dX7_slides_47 (by decide) (fun c_10 => ?_) (fun c_10 => ?_)
      · have h := h.1 c_10
        refine go_sub (al1 := [(0, aR 24 0), (1, aI (x1 + 1)), (2, aI x2), (3, aI x_2)]) [2, 0, 3, 1] rfl ?_
        exact okX7_slides_73   (x1 + 1) x2 x_2  V_6 hk4 h
      · have h := h.2 c_10
        refine go_iload_n (q := 3) dX7_slides_50 rfl rfl ?_
        refine go_iconst (v := 1) dX7_slides_51 (by decide) ?_
        refine go_iadd dX7_slides_52 ?_
        refine go_aload_n (q := 2) dX7_slides_53 rfl rfl ?_
        refine go_getr fg_X7_9 dX7_slides_54 (mM (by decide) (by decide) rfl) ?_
        refine go_iconst (v := 1) dX7_slides_57 (by decide) ?_
        refine go_iald (r := 25) (n := 1479) (j := 1) rfl (by decide) dX7_slides_58 (mM (by decide) (by decide) rfl) (by decide) (by decide) ?_
        refine go_icmp_ge (tgt := 73) dX7_slides_59 (by decide) (fun c_9 => ?_) (fun c_9 => ?_)
        · have h := h.1 c_9
          refine go_sub (al1 := [(0, aR 24 0), (1, aI (x1 + 1)), (2, aI x2), (3, aI x_2)]) [2, 0, 3, 1] rfl ?_
          exact okX7_slides_73   (x1 + 1) x2 x_2  V_6 hk4 h
        · have h := h.2 c_9
          refine go_aload_n (q := 2) dX7_slides_62 rfl rfl ?_
          refine go_iload_n (q := 3) dX7_slides_63 rfl rfl ?_
          refine go_iconst (v := 1) dX7_slides_64 (by decide) ?_
          refine go_iadd dX7_slides_65 ?_
          refine go_iload_n (q := 1) dX7_slides_66 rfl rfl ?_
          refine go_cVV (As := [aI (x2 + 1), aI x_2]) (st := []) (r := 24) (i := 0) mv_X7_snows dX7_slides_67 ml_X7_143 (hr_Kp (Nat.le_refl d)) rfl rfl (mM (by decide) (by decide) rfl) rfl rfl (Nat.le_of_ble_eq_true rfl) h (fun V_8 h => ?_)
          refine go_goto (tgt := 83) dX7_slides_70 (by decide) ?_
          refine go_iinc (q := 3) (y := 1) (al1 := [(2, aI (x2 + 1)), (1, aI (x1 + 1)), (3, aI x_2), (0, aR 24 0)]) dX7_slides_83 rfl (by decide) (by decide) rfl ?_
          refine go_goto (tgt := 4) dX7_slides_86 (by decide) ?_
          refine go_sub (al1 := [(0, aR 24 0), (1, aI (x1 + 1)), (2, aI (x2 + 1))]) [3, 1, 0] rfl ?_
          exact hk4 (x1 + 1) (x2 + 1)  V_8 h
def wpX7_slides_0 (C : CT) (I4 : Int32 → Int32 → Mem → Prop)   (V : Mem) (Q : Option AV → Mem → Prop) : Prop :=
  I4 0 0 V
set_option maxRecDepth 10000 in
theorem okX7_slides_0 {d : Nat} {P : Option AV → Mem → Prop} {I4 : Int32 → Int32 → Mem → Prop}     (V : Mem) (hk4 : ∀ (x1 : Int32) (x2 : Int32), ∀ (V : Mem), I4 x1 x2 V → Gq (Kp (d + 1) mX7_slides UM P) UM cX7_slides 4 RX7 4 [(0, aR 24 0), (1, aI x1), (2, aI x2)] [] V) (h : wpX7_slides_0 (Cl UM d) I4   V P) : Gq (Kp (d + 1) mX7_slides UM P) UM cX7_slides 4 RX7 0 [(0, aR 24 0)] [] V := by
  unfold wpX7_slides_0 at h
  refine go_iconst (v := 0) dX7_slides_0 (by decide) ?_
  refine go_istore_n (al1 := [(1, aI 0), (0, aR 24 0)]) dX7_slides_1 rfl (by decide) rfl ?_
  refine go_iconst (v := 0) dX7_slides_2 (by decide) ?_
  refine go_istore_n (al1 := [(2, aI 0), (1, aI 0), (0, aR 24 0)]) dX7_slides_3 rfl (by decide) rfl ?_
  refine go_sub (al1 := [(0, aR 24 0), (1, aI 0), (2, aI 0)]) [2, 1, 0] rfl ?_
  exact hk4 0 0  V h
theorem clX7_slides {d : Nat} {P : Option AV → Mem → Prop} {I4 : Int32 → Int32 → Mem → Prop}    (V : Mem) (hk4 : ∀ (x1 : Int32) (x2 : Int32), ∀ (V : Mem), I4 x1 x2 V → Gq (Kp (d + 1) mX7_slides UM P) UM cX7_slides 4 RX7 4 [(0, aR 24 0), (1, aI x1), (2, aI x2)] [] V) (h : wpX7_slides_0 (Cl UM d) I4   V P) : Cl UM (d + 1) mX7_slides [aR 24 0] V P :=
  cl_of [(0, aR 24 0)] (by decide) (fun _ => Nat.le_of_ble_eq_true rfl) (fun _ => rfl) (okX7_slides_0    V hk4 h)
