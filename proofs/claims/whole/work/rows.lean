section
/-- a private method of a class that the tables say can be made, by its rows of tables_1 -/
def lw_okq (q : MethodName × Nat) : Prop := (q.1.cls ≠ "java/lang/invoke/MethodHandle" ∧ q.1.cls ≠ "java/lang/invoke/VarHandle") ∧ Cond.instantiable q.1.cls q.2 ∈ tables_1 ∧ Cond.privateMethod q.1 ∈ tables_1 ∧ Cond.instanceMethod q.1 ∈ tables_1
theorem lw_p0 : lw_okq (⟨"RoofSnow", "isRoof", "(I)Z"⟩, 13) := ⟨⟨by decide +kernel, by decide +kernel⟩, List.mem_of_getElem? (i := 17) (by decide +kernel), List.mem_of_getElem? (i := 312) (by decide +kernel), List.mem_of_getElem? (i := 313) (by decide +kernel)⟩
theorem lw_p1 : lw_okq (⟨"RoofSnow", "changeRoom", "(LRoofSnow$Roof;I)I"⟩, 13) := ⟨⟨by decide +kernel, by decide +kernel⟩, List.mem_of_getElem? (i := 17) (by decide +kernel), List.mem_of_getElem? (i := 380) (by decide +kernel), List.mem_of_getElem? (i := 381) (by decide +kernel)⟩
theorem lw_p2 : lw_okq (⟨"RoofSnow$World", "letRain", "(I)V"⟩, 16) := ⟨⟨by decide +kernel, by decide +kernel⟩, List.mem_of_getElem? (i := 52) (by decide +kernel), List.mem_of_getElem? (i := 442) (by decide +kernel), List.mem_of_getElem? (i := 443) (by decide +kernel)⟩
theorem lw_p3 : lw_okq (⟨"RoofSnow$World", "letSnow", "(I)V"⟩, 16) := ⟨⟨by decide +kernel, by decide +kernel⟩, List.mem_of_getElem? (i := 52) (by decide +kernel), List.mem_of_getElem? (i := 447) (by decide +kernel), List.mem_of_getElem? (i := 448) (by decide +kernel)⟩
theorem lw_p4 : lw_okq (⟨"RoofSnow$World", "letHail", "(I)V"⟩, 16) := ⟨⟨by decide +kernel, by decide +kernel⟩, List.mem_of_getElem? (i := 52) (by decide +kernel), List.mem_of_getElem? (i := 455) (by decide +kernel), List.mem_of_getElem? (i := 456) (by decide +kernel)⟩
theorem lw_p5 : lw_okq (⟨"RoofSnow$World", "letSlide", "()I"⟩, 16) := ⟨⟨by decide +kernel, by decide +kernel⟩, List.mem_of_getElem? (i := 52) (by decide +kernel), List.mem_of_getElem? (i := 459) (by decide +kernel), List.mem_of_getElem? (i := 460) (by decide +kernel)⟩
theorem lw_p6 : lw_okq (⟨"RoofSnow$World", "letMelt", "()V"⟩, 16) := ⟨⟨by decide +kernel, by decide +kernel⟩, List.mem_of_getElem? (i := 52) (by decide +kernel), List.mem_of_getElem? (i := 465) (by decide +kernel), List.mem_of_getElem? (i := 466) (by decide +kernel)⟩
theorem lw_p7 : lw_okq (⟨"RoofSnow", "yieldOfHeat", "(III)I"⟩, 13) := ⟨⟨by decide +kernel, by decide +kernel⟩, List.mem_of_getElem? (i := 17) (by decide +kernel), List.mem_of_getElem? (i := 506) (by decide +kernel), List.mem_of_getElem? (i := 507) (by decide +kernel)⟩
theorem lw_p8 : lw_okq (⟨"RoofSnow", "thinkOfWaters", "(I)V"⟩, 13) := ⟨⟨by decide +kernel, by decide +kernel⟩, List.mem_of_getElem? (i := 17) (by decide +kernel), List.mem_of_getElem? (i := 526) (by decide +kernel), List.mem_of_getElem? (i := 527) (by decide +kernel)⟩
theorem lw_p9 : lw_okq (⟨"RoofSnow", "misfit", "(LRoofSnow$Sheet;I)I"⟩, 13) := ⟨⟨by decide +kernel, by decide +kernel⟩, List.mem_of_getElem? (i := 17) (by decide +kernel), List.mem_of_getElem? (i := 542) (by decide +kernel), List.mem_of_getElem? (i := 543) (by decide +kernel)⟩
theorem lw_p10 : lw_okq (⟨"RoofSnow", "putBytes", "(II)V"⟩, 13) := ⟨⟨by decide +kernel, by decide +kernel⟩, List.mem_of_getElem? (i := 17) (by decide +kernel), List.mem_of_getElem? (i := 566) (by decide +kernel), List.mem_of_getElem? (i := 567) (by decide +kernel)⟩
theorem lw_p11 : lw_okq (⟨"RoofSnow$Reader", "goOn", "()V"⟩, 9) := ⟨⟨by decide +kernel, by decide +kernel⟩, List.mem_of_getElem? (i := 160) (by decide +kernel), List.mem_of_getElem? (i := 582) (by decide +kernel), List.mem_of_getElem? (i := 583) (by decide +kernel)⟩
theorem lw_p12 : lw_okq (⟨"RoofSnow$Reader", "readKey", "()Z"⟩, 9) := ⟨⟨by decide +kernel, by decide +kernel⟩, List.mem_of_getElem? (i := 160) (by decide +kernel), List.mem_of_getElem? (i := 589) (by decide +kernel), List.mem_of_getElem? (i := 590) (by decide +kernel)⟩
theorem lw_p13 : lw_okq (⟨"RoofSnow$Reader", "isWord", "(Ljava/lang/String;)Z"⟩, 9) := ⟨⟨by decide +kernel, by decide +kernel⟩, List.mem_of_getElem? (i := 160) (by decide +kernel), List.mem_of_getElem? (i := 599) (by decide +kernel), List.mem_of_getElem? (i := 600) (by decide +kernel)⟩
theorem lw_p14 : lw_okq (⟨"RoofSnow$Reader", "readLevel", "(III)Z"⟩, 9) := ⟨⟨by decide +kernel, by decide +kernel⟩, List.mem_of_getElem? (i := 160) (by decide +kernel), List.mem_of_getElem? (i := 651) (by decide +kernel), List.mem_of_getElem? (i := 652) (by decide +kernel)⟩
theorem lw_p15 : lw_okq (⟨"RoofSnow$Reader", "readPiece", "(II)Z"⟩, 9) := ⟨⟨by decide +kernel, by decide +kernel⟩, List.mem_of_getElem? (i := 160) (by decide +kernel), List.mem_of_getElem? (i := 655) (by decide +kernel), List.mem_of_getElem? (i := 656) (by decide +kernel)⟩
def lw_privs_1 : List (MethodName × Nat) := [(⟨"RoofSnow", "isRoof", "(I)Z"⟩, 13), (⟨"RoofSnow", "changeRoom", "(LRoofSnow$Roof;I)I"⟩, 13), (⟨"RoofSnow$World", "letRain", "(I)V"⟩, 16), (⟨"RoofSnow$World", "letSnow", "(I)V"⟩, 16), (⟨"RoofSnow$World", "letHail", "(I)V"⟩, 16), (⟨"RoofSnow$World", "letSlide", "()I"⟩, 16), (⟨"RoofSnow$World", "letMelt", "()V"⟩, 16), (⟨"RoofSnow", "yieldOfHeat", "(III)I"⟩, 13), (⟨"RoofSnow", "thinkOfWaters", "(I)V"⟩, 13), (⟨"RoofSnow", "misfit", "(LRoofSnow$Sheet;I)I"⟩, 13), (⟨"RoofSnow", "putBytes", "(II)V"⟩, 13), (⟨"RoofSnow$Reader", "goOn", "()V"⟩, 9), (⟨"RoofSnow$Reader", "readKey", "()Z"⟩, 9), (⟨"RoofSnow$Reader", "isWord", "(Ljava/lang/String;)Z"⟩, 9), (⟨"RoofSnow$Reader", "readLevel", "(III)Z"⟩, 9), (⟨"RoofSnow$Reader", "readPiece", "(II)Z"⟩, 9)]
theorem lw_r1 : ∀ q ∈ lw_privs_1, lw_okq q := List.forall_mem_cons.mpr ⟨lw_p0, List.forall_mem_cons.mpr ⟨lw_p1, List.forall_mem_cons.mpr ⟨lw_p2, List.forall_mem_cons.mpr ⟨lw_p3, List.forall_mem_cons.mpr ⟨lw_p4, List.forall_mem_cons.mpr ⟨lw_p5, List.forall_mem_cons.mpr ⟨lw_p6, List.forall_mem_cons.mpr ⟨lw_p7, List.forall_mem_cons.mpr ⟨lw_p8, List.forall_mem_cons.mpr ⟨lw_p9, List.forall_mem_cons.mpr ⟨lw_p10, List.forall_mem_cons.mpr ⟨lw_p11, List.forall_mem_cons.mpr ⟨lw_p12, List.forall_mem_cons.mpr ⟨lw_p13, List.forall_mem_cons.mpr ⟨lw_p14, List.forall_mem_cons.mpr ⟨lw_p15, fun _ h => absurd h List.not_mem_nil⟩⟩⟩⟩⟩⟩⟩⟩⟩⟩⟩⟩⟩⟩⟩⟩
theorem lw_p16 : lw_okq (⟨"RoofSnow$Reader", "numberRead", "()I"⟩, 9) := ⟨⟨by decide +kernel, by decide +kernel⟩, List.mem_of_getElem? (i := 160) (by decide +kernel), List.mem_of_getElem? (i := 659) (by decide +kernel), List.mem_of_getElem? (i := 660) (by decide +kernel)⟩
theorem lw_p17 : lw_okq (⟨"RoofSnow$Reader", "addOperand", "(I)Z"⟩, 9) := ⟨⟨by decide +kernel, by decide +kernel⟩, List.mem_of_getElem? (i := 160) (by decide +kernel), List.mem_of_getElem? (i := 663) (by decide +kernel), List.mem_of_getElem? (i := 664) (by decide +kernel)⟩
theorem lw_p18 : lw_okq (⟨"RoofSnow$Reader", "addStep", "(I)Z"⟩, 9) := ⟨⟨by decide +kernel, by decide +kernel⟩, List.mem_of_getElem? (i := 160) (by decide +kernel), List.mem_of_getElem? (i := 667) (by decide +kernel), List.mem_of_getElem? (i := 668) (by decide +kernel)⟩
theorem lw_p19 : lw_okq (⟨"RoofSnow$Reader", "nameRead", "()I"⟩, 9) := ⟨⟨by decide +kernel, by decide +kernel⟩, List.mem_of_getElem? (i := 160) (by decide +kernel), List.mem_of_getElem? (i := 671) (by decide +kernel), List.mem_of_getElem? (i := 672) (by decide +kernel)⟩
theorem lw_p20 : lw_okq (⟨"RoofSnow$Reader", "isSign", "(I)Z"⟩, 9) := ⟨⟨by decide +kernel, by decide +kernel⟩, List.mem_of_getElem? (i := 160) (by decide +kernel), List.mem_of_getElem? (i := 736) (by decide +kernel), List.mem_of_getElem? (i := 737) (by decide +kernel)⟩
theorem lw_p21 : lw_okq (⟨"RoofSnow$Reader", "isSignOf", "(I)Z"⟩, 9) := ⟨⟨by decide +kernel, by decide +kernel⟩, List.mem_of_getElem? (i := 160) (by decide +kernel), List.mem_of_getElem? (i := 740) (by decide +kernel), List.mem_of_getElem? (i := 741) (by decide +kernel)⟩
theorem lw_p22 : lw_okq (⟨"RoofSnow", "isWaiting", "(III)Z"⟩, 13) := ⟨⟨by decide +kernel, by decide +kernel⟩, List.mem_of_getElem? (i := 17) (by decide +kernel), List.mem_of_getElem? (i := 843) (by decide +kernel), List.mem_of_getElem? (i := 844) (by decide +kernel)⟩
theorem lw_p23 : lw_okq (⟨"RoofSnowModel", "comes", "(II)I"⟩, 33) := ⟨⟨by decide +kernel, by decide +kernel⟩, List.mem_of_getElem? (i := 860) (by decide +kernel), List.mem_of_getElem? (i := 977) (by decide +kernel), List.mem_of_getElem? (i := 978) (by decide +kernel)⟩
theorem lw_p24 : lw_okq (⟨"RoofSnowModel", "put", "(III)V"⟩, 33) := ⟨⟨by decide +kernel, by decide +kernel⟩, List.mem_of_getElem? (i := 860) (by decide +kernel), List.mem_of_getElem? (i := 981) (by decide +kernel), List.mem_of_getElem? (i := 982) (by decide +kernel)⟩
theorem lw_p25 : lw_okq (⟨"RoofSnowModel", "isRoof", "(I)Z"⟩, 33) := ⟨⟨by decide +kernel, by decide +kernel⟩, List.mem_of_getElem? (i := 860) (by decide +kernel), List.mem_of_getElem? (i := 989) (by decide +kernel), List.mem_of_getElem? (i := 990) (by decide +kernel)⟩
theorem lw_p26 : lw_okq (⟨"RoofSnowModel", "of", "(II)I"⟩, 33) := ⟨⟨by decide +kernel, by decide +kernel⟩, List.mem_of_getElem? (i := 860) (by decide +kernel), List.mem_of_getElem? (i := 993) (by decide +kernel), List.mem_of_getElem? (i := 994) (by decide +kernel)⟩
theorem lw_p27 : lw_okq (⟨"RoofSnowModel", "warmthOf", "(I)I"⟩, 33) := ⟨⟨by decide +kernel, by decide +kernel⟩, List.mem_of_getElem? (i := 860) (by decide +kernel), List.mem_of_getElem? (i := 997) (by decide +kernel), List.mem_of_getElem? (i := 998) (by decide +kernel)⟩
theorem lw_p28 : lw_okq (⟨"RoofSnowModel", "hourOfDay", "()I"⟩, 33) := ⟨⟨by decide +kernel, by decide +kernel⟩, List.mem_of_getElem? (i := 860) (by decide +kernel), List.mem_of_getElem? (i := 1001) (by decide +kernel), List.mem_of_getElem? (i := 1002) (by decide +kernel)⟩
theorem lw_p29 : lw_okq (⟨"RoofSnowModel", "meltsOf", "(I)I"⟩, 33) := ⟨⟨by decide +kernel, by decide +kernel⟩, List.mem_of_getElem? (i := 860) (by decide +kernel), List.mem_of_getElem? (i := 1005) (by decide +kernel), List.mem_of_getElem? (i := 1006) (by decide +kernel)⟩
theorem lw_p30 : lw_okq (⟨"RoofSnowModel", "counts", "(I)I"⟩, 33) := ⟨⟨by decide +kernel, by decide +kernel⟩, List.mem_of_getElem? (i := 860) (by decide +kernel), List.mem_of_getElem? (i := 1009) (by decide +kernel), List.mem_of_getElem? (i := 1010) (by decide +kernel)⟩
theorem lw_p31 : lw_okq (⟨"RoofSnowModel", "worksOut", "(I)I"⟩, 33) := ⟨⟨by decide +kernel, by decide +kernel⟩, List.mem_of_getElem? (i := 860) (by decide +kernel), List.mem_of_getElem? (i := 1016) (by decide +kernel), List.mem_of_getElem? (i := 1017) (by decide +kernel)⟩
def lw_privs_2 : List (MethodName × Nat) := [(⟨"RoofSnow$Reader", "numberRead", "()I"⟩, 9), (⟨"RoofSnow$Reader", "addOperand", "(I)Z"⟩, 9), (⟨"RoofSnow$Reader", "addStep", "(I)Z"⟩, 9), (⟨"RoofSnow$Reader", "nameRead", "()I"⟩, 9), (⟨"RoofSnow$Reader", "isSign", "(I)Z"⟩, 9), (⟨"RoofSnow$Reader", "isSignOf", "(I)Z"⟩, 9), (⟨"RoofSnow", "isWaiting", "(III)Z"⟩, 13), (⟨"RoofSnowModel", "comes", "(II)I"⟩, 33), (⟨"RoofSnowModel", "put", "(III)V"⟩, 33), (⟨"RoofSnowModel", "isRoof", "(I)Z"⟩, 33), (⟨"RoofSnowModel", "of", "(II)I"⟩, 33), (⟨"RoofSnowModel", "warmthOf", "(I)I"⟩, 33), (⟨"RoofSnowModel", "hourOfDay", "()I"⟩, 33), (⟨"RoofSnowModel", "meltsOf", "(I)I"⟩, 33), (⟨"RoofSnowModel", "counts", "(I)I"⟩, 33), (⟨"RoofSnowModel", "worksOut", "(I)I"⟩, 33)]
theorem lw_r2 : ∀ q ∈ lw_privs_2, lw_okq q := List.forall_mem_cons.mpr ⟨lw_p16, List.forall_mem_cons.mpr ⟨lw_p17, List.forall_mem_cons.mpr ⟨lw_p18, List.forall_mem_cons.mpr ⟨lw_p19, List.forall_mem_cons.mpr ⟨lw_p20, List.forall_mem_cons.mpr ⟨lw_p21, List.forall_mem_cons.mpr ⟨lw_p22, List.forall_mem_cons.mpr ⟨lw_p23, List.forall_mem_cons.mpr ⟨lw_p24, List.forall_mem_cons.mpr ⟨lw_p25, List.forall_mem_cons.mpr ⟨lw_p26, List.forall_mem_cons.mpr ⟨lw_p27, List.forall_mem_cons.mpr ⟨lw_p28, List.forall_mem_cons.mpr ⟨lw_p29, List.forall_mem_cons.mpr ⟨lw_p30, List.forall_mem_cons.mpr ⟨lw_p31, fun _ h => absurd h List.not_mem_nil⟩⟩⟩⟩⟩⟩⟩⟩⟩⟩⟩⟩⟩⟩⟩⟩
theorem lw_p32 : lw_okq (⟨"RoofSnowModel", "bearsOf", "(I)I"⟩, 33) := ⟨⟨by decide +kernel, by decide +kernel⟩, List.mem_of_getElem? (i := 860) (by decide +kernel), List.mem_of_getElem? (i := 1023) (by decide +kernel), List.mem_of_getElem? (i := 1024) (by decide +kernel)⟩
theorem lw_p33 : lw_okq (⟨"RoofSnowModel", "owns", "(I)Z"⟩, 33) := ⟨⟨by decide +kernel, by decide +kernel⟩, List.mem_of_getElem? (i := 860) (by decide +kernel), List.mem_of_getElem? (i := 1027) (by decide +kernel), List.mem_of_getElem? (i := 1028) (by decide +kernel)⟩
theorem lw_p34 : lw_okq (⟨"RoofSnowModel", "worthOf", "(I)I"⟩, 33) := ⟨⟨by decide +kernel, by decide +kernel⟩, List.mem_of_getElem? (i := 860) (by decide +kernel), List.mem_of_getElem? (i := 1031) (by decide +kernel), List.mem_of_getElem? (i := 1032) (by decide +kernel)⟩
theorem lw_p35 : lw_okq (⟨"RoofSnowModel", "becomes", "(II)I"⟩, 33) := ⟨⟨by decide +kernel, by decide +kernel⟩, List.mem_of_getElem? (i := 860) (by decide +kernel), List.mem_of_getElem? (i := 1047) (by decide +kernel), List.mem_of_getElem? (i := 1048) (by decide +kernel)⟩
theorem lw_p36 : lw_okq (⟨"RoofSnowModel", "rains", "(II)V"⟩, 33) := ⟨⟨by decide +kernel, by decide +kernel⟩, List.mem_of_getElem? (i := 860) (by decide +kernel), List.mem_of_getElem? (i := 1055) (by decide +kernel), List.mem_of_getElem? (i := 1056) (by decide +kernel)⟩
theorem lw_p37 : lw_okq (⟨"RoofSnowModel", "draw", "()I"⟩, 33) := ⟨⟨by decide +kernel, by decide +kernel⟩, List.mem_of_getElem? (i := 860) (by decide +kernel), List.mem_of_getElem? (i := 1071) (by decide +kernel), List.mem_of_getElem? (i := 1072) (by decide +kernel)⟩
theorem lw_p38 : lw_okq (⟨"RoofSnowModel", "hours", "(I)I"⟩, 33) := ⟨⟨by decide +kernel, by decide +kernel⟩, List.mem_of_getElem? (i := 860) (by decide +kernel), List.mem_of_getElem? (i := 1096) (by decide +kernel), List.mem_of_getElem? (i := 1097) (by decide +kernel)⟩
theorem lw_p39 : lw_okq (⟨"RoofSnowModel", "hour", "()I"⟩, 33) := ⟨⟨by decide +kernel, by decide +kernel⟩, List.mem_of_getElem? (i := 860) (by decide +kernel), List.mem_of_getElem? (i := 1100) (by decide +kernel), List.mem_of_getElem? (i := 1101) (by decide +kernel)⟩
theorem lw_p40 : lw_okq (⟨"RoofSnowModel", "falls", "(II)V"⟩, 33) := ⟨⟨by decide +kernel, by decide +kernel⟩, List.mem_of_getElem? (i := 860) (by decide +kernel), List.mem_of_getElem? (i := 1104) (by decide +kernel), List.mem_of_getElem? (i := 1105) (by decide +kernel)⟩
theorem lw_p41 : lw_okq (⟨"RoofSnowModel", "snows", "(II)V"⟩, 33) := ⟨⟨by decide +kernel, by decide +kernel⟩, List.mem_of_getElem? (i := 860) (by decide +kernel), List.mem_of_getElem? (i := 1108) (by decide +kernel), List.mem_of_getElem? (i := 1109) (by decide +kernel)⟩
theorem lw_p42 : lw_okq (⟨"RoofSnowModel", "slides", "()I"⟩, 33) := ⟨⟨by decide +kernel, by decide +kernel⟩, List.mem_of_getElem? (i := 860) (by decide +kernel), List.mem_of_getElem? (i := 1112) (by decide +kernel), List.mem_of_getElem? (i := 1113) (by decide +kernel)⟩
theorem lw_p43 : lw_okq (⟨"RoofSnowModel", "sumOf", "(I)I"⟩, 33) := ⟨⟨by decide +kernel, by decide +kernel⟩, List.mem_of_getElem? (i := 860) (by decide +kernel), List.mem_of_getElem? (i := 1120) (by decide +kernel), List.mem_of_getElem? (i := 1121) (by decide +kernel)⟩
theorem lw_p44 : lw_okq (⟨"RoofSnowModel", "thinks", "()V"⟩, 33) := ⟨⟨by decide +kernel, by decide +kernel⟩, List.mem_of_getElem? (i := 860) (by decide +kernel), List.mem_of_getElem? (i := 1128) (by decide +kernel), List.mem_of_getElem? (i := 1129) (by decide +kernel)⟩
theorem lw_p45 : lw_okq (⟨"RoofSnowModel", "behindIt", "(II)I"⟩, 33) := ⟨⟨by decide +kernel, by decide +kernel⟩, List.mem_of_getElem? (i := 860) (by decide +kernel), List.mem_of_getElem? (i := 1135) (by decide +kernel), List.mem_of_getElem? (i := 1136) (by decide +kernel)⟩
theorem lw_p46 : lw_okq (⟨"RoofSnowModel", "putsBack", "()V"⟩, 33) := ⟨⟨by decide +kernel, by decide +kernel⟩, List.mem_of_getElem? (i := 860) (by decide +kernel), List.mem_of_getElem? (i := 1139) (by decide +kernel), List.mem_of_getElem? (i := 1140) (by decide +kernel)⟩
theorem lw_p47 : lw_okq (⟨"RoofSnowModel", "offBy", "(II)J"⟩, 33) := ⟨⟨by decide +kernel, by decide +kernel⟩, List.mem_of_getElem? (i := 860) (by decide +kernel), List.mem_of_getElem? (i := 1172) (by decide +kernel), List.mem_of_getElem? (i := 1173) (by decide +kernel)⟩
def lw_privs_3 : List (MethodName × Nat) := [(⟨"RoofSnowModel", "bearsOf", "(I)I"⟩, 33), (⟨"RoofSnowModel", "owns", "(I)Z"⟩, 33), (⟨"RoofSnowModel", "worthOf", "(I)I"⟩, 33), (⟨"RoofSnowModel", "becomes", "(II)I"⟩, 33), (⟨"RoofSnowModel", "rains", "(II)V"⟩, 33), (⟨"RoofSnowModel", "draw", "()I"⟩, 33), (⟨"RoofSnowModel", "hours", "(I)I"⟩, 33), (⟨"RoofSnowModel", "hour", "()I"⟩, 33), (⟨"RoofSnowModel", "falls", "(II)V"⟩, 33), (⟨"RoofSnowModel", "snows", "(II)V"⟩, 33), (⟨"RoofSnowModel", "slides", "()I"⟩, 33), (⟨"RoofSnowModel", "sumOf", "(I)I"⟩, 33), (⟨"RoofSnowModel", "thinks", "()V"⟩, 33), (⟨"RoofSnowModel", "behindIt", "(II)I"⟩, 33), (⟨"RoofSnowModel", "putsBack", "()V"⟩, 33), (⟨"RoofSnowModel", "offBy", "(II)J"⟩, 33)]
theorem lw_r3 : ∀ q ∈ lw_privs_3, lw_okq q := List.forall_mem_cons.mpr ⟨lw_p32, List.forall_mem_cons.mpr ⟨lw_p33, List.forall_mem_cons.mpr ⟨lw_p34, List.forall_mem_cons.mpr ⟨lw_p35, List.forall_mem_cons.mpr ⟨lw_p36, List.forall_mem_cons.mpr ⟨lw_p37, List.forall_mem_cons.mpr ⟨lw_p38, List.forall_mem_cons.mpr ⟨lw_p39, List.forall_mem_cons.mpr ⟨lw_p40, List.forall_mem_cons.mpr ⟨lw_p41, List.forall_mem_cons.mpr ⟨lw_p42, List.forall_mem_cons.mpr ⟨lw_p43, List.forall_mem_cons.mpr ⟨lw_p44, List.forall_mem_cons.mpr ⟨lw_p45, List.forall_mem_cons.mpr ⟨lw_p46, List.forall_mem_cons.mpr ⟨lw_p47, fun _ h => absurd h List.not_mem_nil⟩⟩⟩⟩⟩⟩⟩⟩⟩⟩⟩⟩⟩⟩⟩⟩
theorem lw_p48 : lw_okq (⟨"RoofSnowModel", "go", "()V"⟩, 33) := ⟨⟨by decide +kernel, by decide +kernel⟩, List.mem_of_getElem? (i := 860) (by decide +kernel), List.mem_of_getElem? (i := 1192) (by decide +kernel), List.mem_of_getElem? (i := 1193) (by decide +kernel)⟩
theorem lw_p49 : lw_okq (⟨"RoofSnowModel", "isLetter", "(I)Z"⟩, 33) := ⟨⟨by decide +kernel, by decide +kernel⟩, List.mem_of_getElem? (i := 860) (by decide +kernel), List.mem_of_getElem? (i := 1196) (by decide +kernel), List.mem_of_getElem? (i := 1197) (by decide +kernel)⟩
theorem lw_p50 : lw_okq (⟨"RoofSnowModel", "isFigure", "(I)Z"⟩, 33) := ⟨⟨by decide +kernel, by decide +kernel⟩, List.mem_of_getElem? (i := 860) (by decide +kernel), List.mem_of_getElem? (i := 1200) (by decide +kernel), List.mem_of_getElem? (i := 1201) (by decide +kernel)⟩
theorem lw_p51 : lw_okq (⟨"RoofSnowModel", "takesKey", "()Z"⟩, 33) := ⟨⟨by decide +kernel, by decide +kernel⟩, List.mem_of_getElem? (i := 860) (by decide +kernel), List.mem_of_getElem? (i := 1204) (by decide +kernel), List.mem_of_getElem? (i := 1205) (by decide +kernel)⟩
theorem lw_p52 : lw_okq (⟨"RoofSnowModel", "takesE", "()Z"⟩, 33) := ⟨⟨by decide +kernel, by decide +kernel⟩, List.mem_of_getElem? (i := 860) (by decide +kernel), List.mem_of_getElem? (i := 1208) (by decide +kernel), List.mem_of_getElem? (i := 1209) (by decide +kernel)⟩
theorem lw_p53 : lw_okq (⟨"RoofSnowModel", "takesPart", "()Z"⟩, 33) := ⟨⟨by decide +kernel, by decide +kernel⟩, List.mem_of_getElem? (i := 860) (by decide +kernel), List.mem_of_getElem? (i := 1212) (by decide +kernel), List.mem_of_getElem? (i := 1213) (by decide +kernel)⟩
theorem lw_p54 : lw_okq (⟨"RoofSnowModel", "nameOf", "(I)I"⟩, 33) := ⟨⟨by decide +kernel, by decide +kernel⟩, List.mem_of_getElem? (i := 860) (by decide +kernel), List.mem_of_getElem? (i := 1216) (by decide +kernel), List.mem_of_getElem? (i := 1217) (by decide +kernel)⟩
theorem lw_p55 : lw_okq (⟨"RoofSnowModel", "settle", "(I)V"⟩, 33) := ⟨⟨by decide +kernel, by decide +kernel⟩, List.mem_of_getElem? (i := 860) (by decide +kernel), List.mem_of_getElem? (i := 1220) (by decide +kernel), List.mem_of_getElem? (i := 1221) (by decide +kernel)⟩
theorem lw_p56 : lw_okq (⟨"RoofSnowModel", "notsOpen", "()I"⟩, 33) := ⟨⟨by decide +kernel, by decide +kernel⟩, List.mem_of_getElem? (i := 860) (by decide +kernel), List.mem_of_getElem? (i := 1227) (by decide +kernel), List.mem_of_getElem? (i := 1228) (by decide +kernel)⟩
theorem lw_p57 : lw_okq (⟨"RoofSnowModel", "signHere", "()I"⟩, 33) := ⟨⟨by decide +kernel, by decide +kernel⟩, List.mem_of_getElem? (i := 860) (by decide +kernel), List.mem_of_getElem? (i := 1231) (by decide +kernel), List.mem_of_getElem? (i := 1232) (by decide +kernel)⟩
def lw_privs_4 : List (MethodName × Nat) := [(⟨"RoofSnowModel", "go", "()V"⟩, 33), (⟨"RoofSnowModel", "isLetter", "(I)Z"⟩, 33), (⟨"RoofSnowModel", "isFigure", "(I)Z"⟩, 33), (⟨"RoofSnowModel", "takesKey", "()Z"⟩, 33), (⟨"RoofSnowModel", "takesE", "()Z"⟩, 33), (⟨"RoofSnowModel", "takesPart", "()Z"⟩, 33), (⟨"RoofSnowModel", "nameOf", "(I)I"⟩, 33), (⟨"RoofSnowModel", "settle", "(I)V"⟩, 33), (⟨"RoofSnowModel", "notsOpen", "()I"⟩, 33), (⟨"RoofSnowModel", "signHere", "()I"⟩, 33)]
theorem lw_r4 : ∀ q ∈ lw_privs_4, lw_okq q := List.forall_mem_cons.mpr ⟨lw_p48, List.forall_mem_cons.mpr ⟨lw_p49, List.forall_mem_cons.mpr ⟨lw_p50, List.forall_mem_cons.mpr ⟨lw_p51, List.forall_mem_cons.mpr ⟨lw_p52, List.forall_mem_cons.mpr ⟨lw_p53, List.forall_mem_cons.mpr ⟨lw_p54, List.forall_mem_cons.mpr ⟨lw_p55, List.forall_mem_cons.mpr ⟨lw_p56, List.forall_mem_cons.mpr ⟨lw_p57, fun _ h => absurd h List.not_mem_nil⟩⟩⟩⟩⟩⟩⟩⟩⟩⟩
def lw_privs : List (MethodName × Nat) := lw_privs_1 ++ (lw_privs_2 ++ (lw_privs_3 ++ (lw_privs_4)))
def lw_tbl : List Cond := k2_sels lw_privs ++ tables_1
theorem lw_privs_ok : ∀ q ∈ lw_privs, lw_okq q := by
  show ∀ q ∈ lw_privs_1 ++ (lw_privs_2 ++ (lw_privs_3 ++ (lw_privs_4))), lw_okq q
  exact List.forall_mem_append.mpr ⟨lw_r1, List.forall_mem_append.mpr ⟨lw_r2, List.forall_mem_append.mpr ⟨lw_r3, lw_r4⟩⟩⟩
end
section
def RX0 : String := "RoofSnow$Laws"
def TX0 : u_T := fun k => match k with
  | 0 => ("RoofSnow$Laws", "keys", "[I", true)
  | 1 => ("RoofSnow$Laws", "operands", "[I", true)
  | 2 => ("RoofSnow$Laws", "lengths", "[I", true)
  | 3 => ("RoofSnow$Laws", "steps", "[[I", true)
  | _ => ("RoofSnow$Laws", "stack", "[I", true)
def tyX0 : Nat → FieldType := fun k => match k with
  | 0 => .array .int
  | 1 => .array .int
  | 2 => .array .int
  | 3 => .array (.array .int)
  | _ => .array .int
abbrev wsX00 : List Cond := u_ws RX0 TX0 5
theorem nmX0 : ∀ a, a < 5 → ∀ b, b < 5 → a ≠ b → (TX0 a).2.1 ≠ (TX0 b).2.1 := by decide +kernel
theorem tyX0_ok : ∀ k, k < 5 → parseFieldDescriptor (TX0 k).2.2.1 = some (tyX0 k) := by decide +kernel
abbrev cX0_init : ByteArray := prog_2_method_1_code
def yX0_init : MethodName := ⟨RX0, "<init>", "()V"⟩
abbrev cX0_put : ByteArray := prog_2_method_2_code
def yX0_put : MethodName := ⟨RX0, "put", "(ILRoofSnow$Reader;)V"⟩
abbrev cX0_give : ByteArray := prog_2_method_3_code
def yX0_give : MethodName := ⟨RX0, "give", "(IIII)I"⟩
abbrev cX0_joined : ByteArray := prog_2_method_4_code
def yX0_joined : MethodName := ⟨RX0, "joined", "(III)I"⟩
def RX1 : String := "RoofSnow$Reader"
def TX1 : u_T := fun k => match k with
  | 0 => ("RoofSnow$Reader", "bytes", "[I", true)
  | 1 => ("RoofSnow$Reader", "steps", "[I", true)
  | 2 => ("RoofSnow$Reader", "length", "I", false)
  | 3 => ("RoofSnow$Reader", "key", "I", false)
  | 4 => ("RoofSnow$Reader", "operands", "I", false)
  | 5 => ("RoofSnow$Reader", "start", "I", false)
  | 6 => ("RoofSnow$Reader", "end", "I", false)
  | 7 => ("RoofSnow$Reader", "sort", "I", false)
  | _ => ("RoofSnow$Reader", "bytesLength", "I", false)
def tyX1 : Nat → FieldType := fun k => match k with
  | 0 => .array .int
  | 1 => .array .int
  | 2 => .int
  | 3 => .int
  | 4 => .int
  | 5 => .int
  | 6 => .int
  | 7 => .int
  | _ => .int
abbrev wsX10 : List Cond := u_ws RX1 TX1 9
theorem nmX1 : ∀ a, a < 9 → ∀ b, b < 9 → a ≠ b → (TX1 a).2.1 ≠ (TX1 b).2.1 := by decide +kernel
theorem tyX1_ok : ∀ k, k < 9 → parseFieldDescriptor (TX1 k).2.2.1 = some (tyX1 k) := by decide +kernel
abbrev cX1_init : ByteArray := prog_3_method_1_code
def yX1_init : MethodName := ⟨RX1, "<init>", "([I)V"⟩
abbrev cX1_readText : ByteArray := prog_3_method_2_code
def yX1_readText : MethodName := ⟨RX1, "readText", "(I)Z"⟩
abbrev cX1_readKey : ByteArray := prog_3_method_3_code
def yX1_readKey : MethodName := ⟨RX1, "readKey", "()Z"⟩
abbrev cX1_readLevel : ByteArray := prog_3_method_4_code
def yX1_readLevel : MethodName := ⟨RX1, "readLevel", "(III)Z"⟩
abbrev cX1_readPiece : ByteArray := prog_3_method_5_code
def yX1_readPiece : MethodName := ⟨RX1, "readPiece", "(II)Z"⟩
abbrev cX1_addOperand : ByteArray := prog_3_method_6_code
def yX1_addOperand : MethodName := ⟨RX1, "addOperand", "(I)Z"⟩
abbrev cX1_addStep : ByteArray := prog_3_method_7_code
def yX1_addStep : MethodName := ⟨RX1, "addStep", "(I)Z"⟩
abbrev cX1_isSign : ByteArray := prog_3_method_8_code
def yX1_isSign : MethodName := ⟨RX1, "isSign", "(I)Z"⟩
abbrev cX1_isSignOf : ByteArray := prog_3_method_9_code
def yX1_isSignOf : MethodName := ⟨RX1, "isSignOf", "(I)Z"⟩
abbrev cX1_numberRead : ByteArray := prog_3_method_10_code
def yX1_numberRead : MethodName := ⟨RX1, "numberRead", "()I"⟩
abbrev cX1_nameRead : ByteArray := prog_3_method_11_code
def yX1_nameRead : MethodName := ⟨RX1, "nameRead", "()I"⟩
abbrev cX1_isWord : ByteArray := prog_3_method_12_code
def yX1_isWord : MethodName := ⟨RX1, "isWord", "(Ljava/lang/String;)Z"⟩
abbrev cX1_keyWord : ByteArray := prog_3_method_13_code
def yX1_keyWord : MethodName := ⟨RX1, "keyWord", "(I)Ljava/lang/String;"⟩
abbrev cX1_namesOf : ByteArray := prog_3_method_14_code
def yX1_namesOf : MethodName := ⟨RX1, "namesOf", "(I)Ljava/lang/String;"⟩
abbrev cX1_goOn : ByteArray := prog_3_method_15_code
def yX1_goOn : MethodName := ⟨RX1, "goOn", "()V"⟩
abbrev cX1_sortOf : ByteArray := prog_3_method_16_code
def yX1_sortOf : MethodName := ⟨RX1, "sortOf", "(I)I"⟩
def RX2 : String := "RoofSnow$Roof"
def TX2 : u_T := fun k => match k with
  | 0 => ("RoofSnow$Roof", "kind", "I", false)
  | 1 => ("RoofSnow$Roof", "size", "I", false)
  | 2 => ("RoofSnow$Roof", "heat", "I", false)
  | 3 => ("RoofSnow$Roof", "room", "I", false)
  | 4 => ("RoofSnow$Roof", "water", "I", false)
  | _ => ("RoofSnow$Roof", "snow", "I", false)
def tyX2 : Nat → FieldType := fun k => match k with
  | 0 => .int
  | 1 => .int
  | 2 => .int
  | 3 => .int
  | 4 => .int
  | _ => .int
abbrev wsX20 : List Cond := u_ws RX2 TX2 6
theorem nmX2 : ∀ a, a < 6 → ∀ b, b < 6 → a ≠ b → (TX2 a).2.1 ≠ (TX2 b).2.1 := by decide +kernel
theorem tyX2_ok : ∀ k, k < 6 → parseFieldDescriptor (TX2 k).2.2.1 = some (tyX2 k) := by decide +kernel
abbrev cX2_init : ByteArray := prog_4_method_1_code
def yX2_init : MethodName := ⟨RX2, "<init>", "()V"⟩
abbrev cX2_begin : ByteArray := prog_4_method_2_code
def yX2_begin : MethodName := ⟨RX2, "begin", "(II)V"⟩
abbrev cX2_become : ByteArray := prog_4_method_3_code
def yX2_become : MethodName := ⟨RX2, "become", "(LRoofSnow$Roof;)V"⟩
abbrev cX2_isOf : ByteArray := prog_4_method_4_code
def yX2_isOf : MethodName := ⟨RX2, "isOf", "(I)Z"⟩
abbrev cX2_bears : ByteArray := prog_4_method_5_code
def yX2_bears : MethodName := ⟨RX2, "bears", "()I"⟩
abbrev cX2_worth : ByteArray := prog_4_method_6_code
def yX2_worth : MethodName := ⟨RX2, "worth", "()I"⟩
abbrev cX2_takeWater : ByteArray := prog_4_method_7_code
def yX2_takeWater : MethodName := ⟨RX2, "takeWater", "(I)I"⟩
abbrev cX2_takeSnow : ByteArray := prog_4_method_8_code
def yX2_takeSnow : MethodName := ⟨RX2, "takeSnow", "(I)I"⟩
def RX3 : String := "RoofSnow$Sheet"
def TX3 : u_T := fun k => match k with
  | 0 => ("RoofSnow$Sheet", "sort", "I", false)
  | 1 => ("RoofSnow$Sheet", "places", "I", false)
  | _ => ("RoofSnow$Sheet", "row", "[I", true)
def tyX3 : Nat → FieldType := fun k => match k with
  | 0 => .int
  | 1 => .int
  | _ => .array .int
abbrev wsX30 : List Cond := u_ws RX3 TX3 3
theorem nmX3 : ∀ a, a < 3 → ∀ b, b < 3 → a ≠ b → (TX3 a).2.1 ≠ (TX3 b).2.1 := by decide +kernel
theorem tyX3_ok : ∀ k, k < 3 → parseFieldDescriptor (TX3 k).2.2.1 = some (tyX3 k) := by decide +kernel
abbrev cX3_init : ByteArray := prog_5_method_1_code
def yX3_init : MethodName := ⟨RX3, "<init>", "()V"⟩
abbrev cX3_isMissing : ByteArray := prog_5_method_2_code
def yX3_isMissing : MethodName := ⟨RX3, "isMissing", "()Z"⟩
abbrev cX3_lose : ByteArray := prog_5_method_3_code
def yX3_lose : MethodName := ⟨RX3, "lose", "()V"⟩
abbrev cX3_begin : ByteArray := prog_5_method_4_code
def yX3_begin : MethodName := ⟨RX3, "begin", "(II)V"⟩
abbrev cX3_become : ByteArray := prog_5_method_5_code
def yX3_become : MethodName := ⟨RX3, "become", "(LRoofSnow$Sheet;)V"⟩
abbrev cX3_hasPlace : ByteArray := prog_5_method_6_code
def yX3_hasPlace : MethodName := ⟨RX3, "hasPlace", "(I)Z"⟩
abbrev cX3_hasPlaces : ByteArray := prog_5_method_7_code
def yX3_hasPlaces : MethodName := ⟨RX3, "hasPlaces", "(II)Z"⟩
abbrev cX3_isNumber : ByteArray := prog_5_method_8_code
def yX3_isNumber : MethodName := ⟨RX3, "isNumber", "(I)Z"⟩
abbrev cX3_write : ByteArray := prog_5_method_9_code
def yX3_write : MethodName := ⟨RX3, "write", "(II)I"⟩
def RX4 : String := "RoofSnow$Slot"
def TX4 : u_T := fun k => match k with
  | 0 => ("RoofSnow$Slot", "thing", "I", false)
  | 1 => ("RoofSnow$Slot", "number", "I", false)
  | 2 => ("RoofSnow$Slot", "roofHeld", "LRoofSnow$Roof;", true)
  | _ => ("RoofSnow$Slot", "sheetHeld", "LRoofSnow$Sheet;", true)
def tyX4 : Nat → FieldType := fun k => match k with
  | 0 => .int
  | 1 => .int
  | 2 => .object "RoofSnow$Roof"
  | _ => .object "RoofSnow$Sheet"
abbrev wsX40 : List Cond := u_ws RX4 TX4 4
theorem nmX4 : ∀ a, a < 4 → ∀ b, b < 4 → a ≠ b → (TX4 a).2.1 ≠ (TX4 b).2.1 := by decide +kernel
theorem tyX4_ok : ∀ k, k < 4 → parseFieldDescriptor (TX4 k).2.2.1 = some (tyX4 k) := by decide +kernel
abbrev cX4_init : ByteArray := prog_6_method_1_code
def yX4_init : MethodName := ⟨RX4, "<init>", "()V"⟩
abbrev cX4_findingFor : ByteArray := prog_6_method_2_code
def yX4_findingFor : MethodName := ⟨RX4, "findingFor", "(I)I"⟩
def RX5 : String := "RoofSnow$World"
def TX5 : u_T := fun k => match k with
  | 0 => ("RoofSnow$World", "laws", "LRoofSnow$Laws;", true)
  | 1 => ("RoofSnow$World", "roofs", "[LRoofSnow$Roof;", true)
  | 2 => ("RoofSnow$World", "air", "[I", true)
  | 3 => ("RoofSnow$World", "fall", "[I", true)
  | 4 => ("RoofSnow$World", "counting", "[I", true)
  | 5 => ("RoofSnow$World", "texts", "I", false)
  | 6 => ("RoofSnow$World", "many", "I", false)
  | 7 => ("RoofSnow$World", "dusk", "I", false)
  | 8 => ("RoofSnow$World", "hour", "I", false)
  | 9 => ("RoofSnow$World", "z", "I", false)
  | 10 => ("RoofSnow$World", "streetSnow", "I", false)
  | 11 => ("RoofSnow$World", "streetWater", "I", false)
  | 12 => ("RoofSnow$World", "nobodys", "I", false)
  | 13 => ("RoofSnow$World", "lost", "I", false)
  | 14 => ("RoofSnow$World", "stolen", "I", false)
  | _ => ("RoofSnow$World", "used", "I", false)
def tyX5 : Nat → FieldType := fun k => match k with
  | 0 => .object "RoofSnow$Laws"
  | 1 => .array (.object "RoofSnow$Roof")
  | 2 => .array .int
  | 3 => .array .int
  | 4 => .array .int
  | 5 => .int
  | 6 => .int
  | 7 => .int
  | 8 => .int
  | 9 => .int
  | 10 => .int
  | 11 => .int
  | 12 => .int
  | 13 => .int
  | 14 => .int
  | _ => .int
abbrev wsX50 : List Cond := u_ws RX5 TX5 16
theorem nmX5 : ∀ a, a < 16 → ∀ b, b < 16 → a ≠ b → (TX5 a).2.1 ≠ (TX5 b).2.1 := by decide +kernel
theorem tyX5_ok : ∀ k, k < 16 → parseFieldDescriptor (TX5 k).2.2.1 = some (tyX5 k) := by decide +kernel
abbrev cX5_init : ByteArray := prog_7_method_1_code
def yX5_init : MethodName := ⟨RX5, "<init>", "(LRoofSnow$Laws;)V"⟩
abbrev cX5_become : ByteArray := prog_7_method_2_code
def yX5_become : MethodName := ⟨RX5, "become", "(LRoofSnow$World;)V"⟩
abbrev cX5_addRoof : ByteArray := prog_7_method_3_code
def yX5_addRoof : MethodName := ⟨RX5, "addRoof", "(II)I"⟩
abbrev cX5_draw : ByteArray := prog_7_method_4_code
def yX5_draw : MethodName := ⟨RX5, "draw", "()I"⟩
abbrev cX5_hourOfDay : ByteArray := prog_7_method_5_code
def yX5_hourOfDay : MethodName := ⟨RX5, "hourOfDay", "()I"⟩
abbrev cX5_hoursLeft : ByteArray := prog_7_method_6_code
def yX5_hoursLeft : MethodName := ⟨RX5, "hoursLeft", "()I"⟩
abbrev cX5_warmth : ByteArray := prog_7_method_7_code
def yX5_warmth : MethodName := ⟨RX5, "warmth", "(LRoofSnow$Roof;)I"⟩
abbrev cX5_melts : ByteArray := prog_7_method_8_code
def yX5_melts : MethodName := ⟨RX5, "melts", "(LRoofSnow$Roof;)I"⟩
abbrev cX5_owns : ByteArray := prog_7_method_9_code
def yX5_owns : MethodName := ⟨RX5, "owns", "(LRoofSnow$Roof;)Z"⟩
abbrev cX5_fineFor : ByteArray := prog_7_method_10_code
def yX5_fineFor : MethodName := ⟨RX5, "fineFor", "(LRoofSnow$Roof;)I"⟩
abbrev cX5_passHours : ByteArray := prog_7_method_11_code
def yX5_passHours : MethodName := ⟨RX5, "passHours", "(I)I"⟩
abbrev cX5_passHour : ByteArray := prog_7_method_12_code
def yX5_passHour : MethodName := ⟨RX5, "passHour", "()I"⟩
abbrev cX5_letRain : ByteArray := prog_7_method_13_code
def yX5_letRain : MethodName := ⟨RX5, "letRain", "(I)V"⟩
abbrev cX5_letSnow : ByteArray := prog_7_method_14_code
def yX5_letSnow : MethodName := ⟨RX5, "letSnow", "(I)V"⟩
abbrev cX5_letHail : ByteArray := prog_7_method_15_code
def yX5_letHail : MethodName := ⟨RX5, "letHail", "(I)V"⟩
abbrev cX5_letSlide : ByteArray := prog_7_method_16_code
def yX5_letSlide : MethodName := ⟨RX5, "letSlide", "()I"⟩
abbrev cX5_letMelt : ByteArray := prog_7_method_17_code
def yX5_letMelt : MethodName := ⟨RX5, "letMelt", "()V"⟩
abbrev cX5_roofsWater : ByteArray := prog_7_method_18_code
def yX5_roofsWater : MethodName := ⟨RX5, "roofsWater", "()I"⟩
abbrev cX5_roofsSnow : ByteArray := prog_7_method_19_code
def yX5_roofsSnow : MethodName := ⟨RX5, "roofsSnow", "()I"⟩
abbrev cX5_allKilos : ByteArray := prog_7_method_20_code
def yX5_allKilos : MethodName := ⟨RX5, "allKilos", "()I"⟩
def RX6 : String := "RoofSnow"
def TX6 : u_T := fun k => match k with
  | 0 => ("RoofSnow", "laws", "LRoofSnow$Laws;", true)
  | 1 => ("RoofSnow", "now", "LRoofSnow$World;", true)
  | 2 => ("RoofSnow", "image", "LRoofSnow$World;", true)
  | 3 => ("RoofSnow", "thought", "LRoofSnow$World;", true)
  | 4 => ("RoofSnow", "imageKept", "Z", false)
  | 5 => ("RoofSnow", "tape", "[I", true)
  | 6 => ("RoofSnow", "tapeLength", "I", false)
  | 7 => ("RoofSnow", "reader", "LRoofSnow$Reader;", true)
  | 8 => ("RoofSnow", "sheets", "[LRoofSnow$Sheet;", true)
  | 9 => ("RoofSnow", "slots", "[LRoofSnow$Slot;", true)
  | 10 => ("RoofSnow", "waiting", "[I", true)
  | 11 => ("RoofSnow", "waits", "I", false)
  | _ => ("RoofSnow", "waters", "[I", true)
def tyX6 : Nat → FieldType := fun k => match k with
  | 0 => .object "RoofSnow$Laws"
  | 1 => .object "RoofSnow$World"
  | 2 => .object "RoofSnow$World"
  | 3 => .object "RoofSnow$World"
  | 4 => .boolean
  | 5 => .array .int
  | 6 => .int
  | 7 => .object "RoofSnow$Reader"
  | 8 => .array (.object "RoofSnow$Sheet")
  | 9 => .array (.object "RoofSnow$Slot")
  | 10 => .array .int
  | 11 => .int
  | _ => .array .int
abbrev wsX60 : List Cond := u_ws RX6 TX6 13
theorem nmX6 : ∀ a, a < 13 → ∀ b, b < 13 → a ≠ b → (TX6 a).2.1 ≠ (TX6 b).2.1 := by decide +kernel
theorem tyX6_ok : ∀ k, k < 13 → parseFieldDescriptor (TX6 k).2.2.1 = some (tyX6 k) := by decide +kernel
abbrev cX6_init : ByteArray := prog_1_method_1_code
def yX6_init : MethodName := ⟨RX6, "<init>", "()V"⟩
abbrev cX6_roof : ByteArray := prog_1_method_2_code
def yX6_roof : MethodName := ⟨RX6, "roof", "(II)I"⟩
abbrev cX6_told : ByteArray := prog_1_method_3_code
def yX6_told : MethodName := ⟨RX6, "told", "(II)I"⟩
abbrev cX6_as : ByteArray := prog_1_method_4_code
def yX6_as : MethodName := ⟨RX6, "as", "(II)I"⟩
abbrev cX6_turns : ByteArray := prog_1_method_5_code
def yX6_turns : MethodName := ⟨RX6, "turns", "(II)I"⟩
abbrev cX6_set : ByteArray := prog_1_method_6_code
def yX6_set : MethodName := ⟨RX6, "set", "(III)I"⟩
abbrev cX6_sweep : ByteArray := prog_1_method_7_code
def yX6_sweep : MethodName := ⟨RX6, "sweep", "(II)I"⟩
abbrev cX6_use : ByteArray := prog_1_method_8_code
def yX6_use : MethodName := ⟨RX6, "use", "(II)I"⟩
abbrev cX6_deal : ByteArray := prog_1_method_9_code
def yX6_deal : MethodName := ⟨RX6, "deal", "(I)I"⟩
abbrev cX6_seed : ByteArray := prog_1_method_10_code
def yX6_seed : MethodName := ⟨RX6, "seed", "(I)I"⟩
abbrev cX6_weather : ByteArray := prog_1_method_11_code
def yX6_weather : MethodName := ⟨RX6, "weather", "(III)I"⟩
abbrev cX6_sky : ByteArray := prog_1_method_12_code
def yX6_sky : MethodName := ⟨RX6, "sky", "()I"⟩
abbrev cX6_sunset : ByteArray := prog_1_method_13_code
def yX6_sunset : MethodName := ⟨RX6, "sunset", "(I)I"⟩
abbrev cX6_run : ByteArray := prog_1_method_14_code
def yX6_run : MethodName := ⟨RX6, "run", "(I)I"⟩
abbrev cX6_kilos : ByteArray := prog_1_method_15_code
def yX6_kilos : MethodName := ⟨RX6, "kilos", "(I)I"⟩
abbrev cX6_behind : ByteArray := prog_1_method_16_code
def yX6_behind : MethodName := ⟨RX6, "behind", "(III)I"⟩
abbrev cX6_best : ByteArray := prog_1_method_17_code
def yX6_best : MethodName := ⟨RX6, "best", "(III)I"⟩
abbrev cX6_leastRoom : ByteArray := prog_1_method_18_code
def yX6_leastRoom : MethodName := ⟨RX6, "leastRoom", "(II)I"⟩
abbrev cX6_slide : ByteArray := prog_1_method_19_code
def yX6_slide : MethodName := ⟨RX6, "slide", "()I"⟩
abbrev cX6_gains : ByteArray := prog_1_method_20_code
def yX6_gains : MethodName := ⟨RX6, "gains", "(II)I"⟩
abbrev cX6_explained : ByteArray := prog_1_method_21_code
def yX6_explained : MethodName := ⟨RX6, "explained", "(II)I"⟩
abbrev cX6_fine : ByteArray := prog_1_method_22_code
def yX6_fine : MethodName := ⟨RX6, "fine", "(I)I"⟩
abbrev cX6_feed : ByteArray := prog_1_method_23_code
def yX6_feed : MethodName := ⟨RX6, "feed", "(III)I"⟩
abbrev cX6_trim : ByteArray := prog_1_method_24_code
def yX6_trim : MethodName := ⟨RX6, "trim", "(I)I"⟩
abbrev cX6_text : ByteArray := prog_1_method_25_code
def yX6_text : MethodName := ⟨RX6, "text", "()I"⟩
abbrev cX6_textTold : ByteArray := prog_1_method_26_code
def yX6_textTold : MethodName := ⟨RX6, "textTold", "(II)I"⟩
abbrev cX6_why : ByteArray := prog_1_method_27_code
def yX6_why : MethodName := ⟨RX6, "why", "(I)I"⟩
abbrev cX6_sheet : ByteArray := prog_1_method_28_code
def yX6_sheet : MethodName := ⟨RX6, "sheet", "(III)I"⟩
abbrev cX6_mark : ByteArray := prog_1_method_29_code
def yX6_mark : MethodName := ⟨RX6, "mark", "(III)I"⟩
abbrev cX6_pour : ByteArray := prog_1_method_30_code
def yX6_pour : MethodName := ⟨RX6, "pour", "(I)I"⟩
abbrev cX6_reads : ByteArray := prog_1_method_31_code
def yX6_reads : MethodName := ⟨RX6, "reads", "(I)I"⟩
abbrev cX6_copy : ByteArray := prog_1_method_32_code
def yX6_copy : MethodName := ⟨RX6, "copy", "(IIIII)I"⟩
abbrev cX6_lay : ByteArray := prog_1_method_33_code
def yX6_lay : MethodName := ⟨RX6, "lay", "(III)I"⟩
abbrev cX6_ask : ByteArray := prog_1_method_34_code
def yX6_ask : MethodName := ⟨RX6, "ask", "(II)I"⟩
abbrev cX6_item : ByteArray := prog_1_method_35_code
def yX6_item : MethodName := ⟨RX6, "item", "(II)I"⟩
abbrev cX6_rest : ByteArray := prog_1_method_36_code
def yX6_rest : MethodName := ⟨RX6, "rest", "(II)I"⟩
abbrev cX6_tell : ByteArray := prog_1_method_37_code
def yX6_tell : MethodName := ⟨RX6, "tell", "(I)I"⟩
abbrev cX6_check : ByteArray := prog_1_method_38_code
def yX6_check : MethodName := ⟨RX6, "check", "(I)I"⟩
abbrev cX6_keep : ByteArray := prog_1_method_39_code
def yX6_keep : MethodName := ⟨RX6, "keep", "()I"⟩
abbrev cX6_back : ByteArray := prog_1_method_40_code
def yX6_back : MethodName := ⟨RX6, "back", "()I"⟩
abbrev cX6_count : ByteArray := prog_1_method_41_code
def yX6_count : MethodName := ⟨RX6, "count", "(I)I"⟩
abbrev cX6_isWithin : ByteArray := prog_1_method_42_code
def yX6_isWithin : MethodName := ⟨RX6, "isWithin", "(III)Z"⟩
abbrev cX6_isKind : ByteArray := prog_1_method_43_code
def yX6_isKind : MethodName := ⟨RX6, "isKind", "(I)Z"⟩
abbrev cX6_isRoof : ByteArray := prog_1_method_44_code
def yX6_isRoof : MethodName := ⟨RX6, "isRoof", "(I)Z"⟩
abbrev cX6_isSheet : ByteArray := prog_1_method_45_code
def yX6_isSheet : MethodName := ⟨RX6, "isSheet", "(I)Z"⟩
abbrev cX6_isSlot : ByteArray := prog_1_method_46_code
def yX6_isSlot : MethodName := ⟨RX6, "isSlot", "(I)Z"⟩
abbrev cX6_changeSize : ByteArray := prog_1_method_47_code
def yX6_changeSize : MethodName := ⟨RX6, "changeSize", "(LRoofSnow$Roof;I)I"⟩
abbrev cX6_changeHeat : ByteArray := prog_1_method_48_code
def yX6_changeHeat : MethodName := ⟨RX6, "changeHeat", "(LRoofSnow$Roof;I)I"⟩
abbrev cX6_changeRoom : ByteArray := prog_1_method_49_code
def yX6_changeRoom : MethodName := ⟨RX6, "changeRoom", "(LRoofSnow$Roof;I)I"⟩
abbrev cX6_change : ByteArray := prog_1_method_50_code
def yX6_change : MethodName := ⟨RX6, "change", "([III)I"⟩
abbrev cX6_yieldOfHeat : ByteArray := prog_1_method_51_code
def yX6_yieldOfHeat : MethodName := ⟨RX6, "yieldOfHeat", "(III)I"⟩
abbrev cX6_thinkOfWaters : ByteArray := prog_1_method_52_code
def yX6_thinkOfWaters : MethodName := ⟨RX6, "thinkOfWaters", "(I)V"⟩
abbrev cX6_misfit : ByteArray := prog_1_method_53_code
def yX6_misfit : MethodName := ⟨RX6, "misfit", "(LRoofSnow$Sheet;I)I"⟩
abbrev cX6_putBytes : ByteArray := prog_1_method_54_code
def yX6_putBytes : MethodName := ⟨RX6, "putBytes", "(II)V"⟩
abbrev cX6_isWaiting : ByteArray := prog_1_method_55_code
def yX6_isWaiting : MethodName := ⟨RX6, "isWaiting", "(III)Z"⟩
def RX7 : String := "RoofSnowModel"
def TX7 : u_T := fun k => match k with
  | 0 => ("RoofSnowModel", "now", "[I", true)
  | 1 => ("RoofSnowModel", "image", "[I", true)
  | 2 => ("RoofSnowModel", "aside", "[I", true)
  | 3 => ("RoofSnowModel", "hasImage", "Z", false)
  | 4 => ("RoofSnowModel", "before", "[I", true)
  | 5 => ("RoofSnowModel", "tape", "[I", true)
  | 6 => ("RoofSnowModel", "taped", "I", false)
  | 7 => ("RoofSnowModel", "next", "I", false)
  | 8 => ("RoofSnowModel", "from", "I", false)
  | 9 => ("RoofSnowModel", "token", "I", false)
  | 10 => ("RoofSnowModel", "value", "I", false)
  | 11 => ("RoofSnowModel", "ended", "I", false)
  | 12 => ("RoofSnowModel", "key", "I", false)
  | 13 => ("RoofSnowModel", "keys", "[C", true)
  | 14 => ("RoofSnowModel", "keyAt", "[I", true)
  | 15 => ("RoofSnowModel", "code", "[I", true)
  | 16 => ("RoofSnowModel", "codes", "I", false)
  | 17 => ("RoofSnowModel", "atoms", "I", false)
  | 18 => ("RoofSnowModel", "waits", "[I", true)
  | 19 => ("RoofSnowModel", "held", "I", false)
  | 20 => ("RoofSnowModel", "tested", "[Z", true)
  | 21 => ("RoofSnowModel", "stack", "[I", true)
  | 22 => ("RoofSnowModel", "facts", "[I", true)
  | 23 => ("RoofSnowModel", "sorts", "[I", true)
  | 24 => ("RoofSnowModel", "sizes", "[I", true)
  | 25 => ("RoofSnowModel", "cells", "[I", true)
  | 26 => ("RoofSnowModel", "holds", "[I", true)
  | 27 => ("RoofSnowModel", "holdsA", "[I", true)
  | 28 => ("RoofSnowModel", "holdsB", "[I", true)
  | 29 => ("RoofSnowModel", "heldCells", "[I", true)
  | 30 => ("RoofSnowModel", "moved", "[I", true)
  | 31 => ("RoofSnowModel", "tells", "[I", true)
  | _ => ("RoofSnowModel", "waiting", "I", false)
def tyX7 : Nat → FieldType := fun k => match k with
  | 0 => .array .int
  | 1 => .array .int
  | 2 => .array .int
  | 3 => .boolean
  | 4 => .array .int
  | 5 => .array .int
  | 6 => .int
  | 7 => .int
  | 8 => .int
  | 9 => .int
  | 10 => .int
  | 11 => .int
  | 12 => .int
  | 13 => .array .char
  | 14 => .array .int
  | 15 => .array .int
  | 16 => .int
  | 17 => .int
  | 18 => .array .int
  | 19 => .int
  | 20 => .array .boolean
  | 21 => .array .int
  | 22 => .array .int
  | 23 => .array .int
  | 24 => .array .int
  | 25 => .array .int
  | 26 => .array .int
  | 27 => .array .int
  | 28 => .array .int
  | 29 => .array .int
  | 30 => .array .int
  | 31 => .array .int
  | _ => .int
abbrev wsX70 : List Cond := u_ws RX7 TX7 33
theorem nmX7 : ∀ a, a < 33 → ∀ b, b < 33 → a ≠ b → (TX7 a).2.1 ≠ (TX7 b).2.1 := by decide +kernel
theorem tyX7_ok : ∀ k, k < 33 → parseFieldDescriptor (TX7 k).2.2.1 = some (tyX7 k) := by decide +kernel
abbrev cX7_init : ByteArray := prog_9_method_1_code
def yX7_init : MethodName := ⟨RX7, "<init>", "()V"⟩
abbrev cX7_in : ByteArray := prog_9_method_2_code
def yX7_in : MethodName := ⟨RX7, "in", "(III)Z"⟩
abbrev cX7_within : ByteArray := prog_9_method_3_code
def yX7_within : MethodName := ⟨RX7, "within", "(III)I"⟩
abbrev cX7_copyAll : ByteArray := prog_9_method_4_code
def yX7_copyAll : MethodName := ⟨RX7, "copyAll", "([I[I)V"⟩
abbrev cX7_told0 : ByteArray := prog_9_method_5_code
def yX7_told0 : MethodName := ⟨RX7, "told0", "(I)I"⟩
abbrev cX7_isRoof : ByteArray := prog_9_method_6_code
def yX7_isRoof : MethodName := ⟨RX7, "isRoof", "(I)Z"⟩
abbrev cX7_of : ByteArray := prog_9_method_7_code
def yX7_of : MethodName := ⟨RX7, "of", "(II)I"⟩
abbrev cX7_put : ByteArray := prog_9_method_8_code
def yX7_put : MethodName := ⟨RX7, "put", "(III)V"⟩
abbrev cX7_becomes : ByteArray := prog_9_method_9_code
def yX7_becomes : MethodName := ⟨RX7, "becomes", "(II)I"⟩
abbrev cX7_hourOfDay : ByteArray := prog_9_method_10_code
def yX7_hourOfDay : MethodName := ⟨RX7, "hourOfDay", "()I"⟩
abbrev cX7_comes : ByteArray := prog_9_method_11_code
def yX7_comes : MethodName := ⟨RX7, "comes", "(II)I"⟩
abbrev cX7_roof : ByteArray := prog_9_method_12_code
def yX7_roof : MethodName := ⟨RX7, "roof", "(II)I"⟩
abbrev cX7_warmthOf : ByteArray := prog_9_method_13_code
def yX7_warmthOf : MethodName := ⟨RX7, "warmthOf", "(I)I"⟩
abbrev cX7_meltsOf : ByteArray := prog_9_method_14_code
def yX7_meltsOf : MethodName := ⟨RX7, "meltsOf", "(I)I"⟩
abbrev cX7_bearsOf : ByteArray := prog_9_method_15_code
def yX7_bearsOf : MethodName := ⟨RX7, "bearsOf", "(I)I"⟩
abbrev cX7_owns : ByteArray := prog_9_method_16_code
def yX7_owns : MethodName := ⟨RX7, "owns", "(I)Z"⟩
abbrev cX7_worthOf : ByteArray := prog_9_method_17_code
def yX7_worthOf : MethodName := ⟨RX7, "worthOf", "(I)I"⟩
abbrev cX7_told : ByteArray := prog_9_method_18_code
def yX7_told : MethodName := ⟨RX7, "told", "(II)I"⟩
abbrev cX7_isUnder : ByteArray := prog_9_method_19_code
def yX7_isUnder : MethodName := ⟨RX7, "isUnder", "(II)Z"⟩
abbrev cX7_as : ByteArray := prog_9_method_20_code
def yX7_as : MethodName := ⟨RX7, "as", "(II)I"⟩
abbrev cX7_turns : ByteArray := prog_9_method_21_code
def yX7_turns : MethodName := ⟨RX7, "turns", "(II)I"⟩
abbrev cX7_rains : ByteArray := prog_9_method_22_code
def yX7_rains : MethodName := ⟨RX7, "rains", "(II)V"⟩
abbrev cX7_set : ByteArray := prog_9_method_23_code
def yX7_set : MethodName := ⟨RX7, "set", "(III)I"⟩
abbrev cX7_sweep : ByteArray := prog_9_method_24_code
def yX7_sweep : MethodName := ⟨RX7, "sweep", "(II)I"⟩
abbrev cX7_use : ByteArray := prog_9_method_25_code
def yX7_use : MethodName := ⟨RX7, "use", "(II)I"⟩
abbrev cX7_draw : ByteArray := prog_9_method_26_code
def yX7_draw : MethodName := ⟨RX7, "draw", "()I"⟩
abbrev cX7_deal : ByteArray := prog_9_method_27_code
def yX7_deal : MethodName := ⟨RX7, "deal", "(I)I"⟩
abbrev cX7_seed : ByteArray := prog_9_method_28_code
def yX7_seed : MethodName := ⟨RX7, "seed", "(I)I"⟩
abbrev cX7_weather : ByteArray := prog_9_method_29_code
def yX7_weather : MethodName := ⟨RX7, "weather", "(III)I"⟩
abbrev cX7_sky : ByteArray := prog_9_method_30_code
def yX7_sky : MethodName := ⟨RX7, "sky", "()I"⟩
abbrev cX7_sunset : ByteArray := prog_9_method_31_code
def yX7_sunset : MethodName := ⟨RX7, "sunset", "(I)I"⟩
abbrev cX7_snows : ByteArray := prog_9_method_32_code
def yX7_snows : MethodName := ⟨RX7, "snows", "(II)V"⟩
abbrev cX7_falls : ByteArray := prog_9_method_33_code
def yX7_falls : MethodName := ⟨RX7, "falls", "(II)V"⟩
abbrev cX7_slides : ByteArray := prog_9_method_34_code
def yX7_slides : MethodName := ⟨RX7, "slides", "()I"⟩
abbrev cX7_hour : ByteArray := prog_9_method_35_code
def yX7_hour : MethodName := ⟨RX7, "hour", "()I"⟩
abbrev cX7_hours : ByteArray := prog_9_method_36_code
def yX7_hours : MethodName := ⟨RX7, "hours", "(I)I"⟩
abbrev cX7_run : ByteArray := prog_9_method_37_code
def yX7_run : MethodName := ⟨RX7, "run", "(I)I"⟩
abbrev cX7_sumOf : ByteArray := prog_9_method_38_code
def yX7_sumOf : MethodName := ⟨RX7, "sumOf", "(I)I"⟩
abbrev cX7_kilos : ByteArray := prog_9_method_39_code
def yX7_kilos : MethodName := ⟨RX7, "kilos", "(I)I"⟩
abbrev cX7_thinks : ByteArray := prog_9_method_40_code
def yX7_thinks : MethodName := ⟨RX7, "thinks", "()V"⟩
abbrev cX7_putsBack : ByteArray := prog_9_method_41_code
def yX7_putsBack : MethodName := ⟨RX7, "putsBack", "()V"⟩
abbrev cX7_behindIt : ByteArray := prog_9_method_42_code
def yX7_behindIt : MethodName := ⟨RX7, "behindIt", "(II)I"⟩
abbrev cX7_waterAt : ByteArray := prog_9_method_43_code
def yX7_waterAt : MethodName := ⟨RX7, "waterAt", "(I)I"⟩
abbrev cX7_behind : ByteArray := prog_9_method_44_code
def yX7_behind : MethodName := ⟨RX7, "behind", "(III)I"⟩
abbrev cX7_best : ByteArray := prog_9_method_45_code
def yX7_best : MethodName := ⟨RX7, "best", "(III)I"⟩
abbrev cX7_leastRoom : ByteArray := prog_9_method_46_code
def yX7_leastRoom : MethodName := ⟨RX7, "leastRoom", "(II)I"⟩
abbrev cX7_slide : ByteArray := prog_9_method_47_code
def yX7_slide : MethodName := ⟨RX7, "slide", "()I"⟩
abbrev cX7_gains : ByteArray := prog_9_method_48_code
def yX7_gains : MethodName := ⟨RX7, "gains", "(II)I"⟩
abbrev cX7_offBy : ByteArray := prog_9_method_49_code
def yX7_offBy : MethodName := ⟨RX7, "offBy", "(II)J"⟩
abbrev cX7_explained : ByteArray := prog_9_method_50_code
def yX7_explained : MethodName := ⟨RX7, "explained", "(II)I"⟩
abbrev cX7_fine : ByteArray := prog_9_method_51_code
def yX7_fine : MethodName := ⟨RX7, "fine", "(I)I"⟩
abbrev cX7_feed : ByteArray := prog_9_method_52_code
def yX7_feed : MethodName := ⟨RX7, "feed", "(III)I"⟩
abbrev cX7_trim : ByteArray := prog_9_method_53_code
def yX7_trim : MethodName := ⟨RX7, "trim", "(I)I"⟩
abbrev cX7_isLetter : ByteArray := prog_9_method_54_code
def yX7_isLetter : MethodName := ⟨RX7, "isLetter", "(I)Z"⟩
abbrev cX7_isFigure : ByteArray := prog_9_method_55_code
def yX7_isFigure : MethodName := ⟨RX7, "isFigure", "(I)Z"⟩
abbrev cX7_go : ByteArray := prog_9_method_56_code
def yX7_go : MethodName := ⟨RX7, "go", "()V"⟩
abbrev cX7_takesKey : ByteArray := prog_9_method_57_code
def yX7_takesKey : MethodName := ⟨RX7, "takesKey", "()Z"⟩
abbrev cX7_nameOf : ByteArray := prog_9_method_58_code
def yX7_nameOf : MethodName := ⟨RX7, "nameOf", "(I)I"⟩
abbrev cX7_rank : ByteArray := prog_9_method_59_code
def yX7_rank : MethodName := ⟨RX7, "rank", "(I)I"⟩
abbrev cX7_settle : ByteArray := prog_9_method_60_code
def yX7_settle : MethodName := ⟨RX7, "settle", "(I)V"⟩
abbrev cX7_signHere : ByteArray := prog_9_method_61_code
def yX7_signHere : MethodName := ⟨RX7, "signHere", "()I"⟩
abbrev cX7_takesPart : ByteArray := prog_9_method_62_code
def yX7_takesPart : MethodName := ⟨RX7, "takesPart", "()Z"⟩
abbrev cX7_takesE : ByteArray := prog_9_method_63_code
def yX7_takesE : MethodName := ⟨RX7, "takesE", "()Z"⟩
abbrev cX7_notsOpen : ByteArray := prog_9_method_64_code
def yX7_notsOpen : MethodName := ⟨RX7, "notsOpen", "()I"⟩
abbrev cX7_text : ByteArray := prog_9_method_65_code
def yX7_text : MethodName := ⟨RX7, "text", "()I"⟩
abbrev cX7_textTold : ByteArray := prog_9_method_66_code
def yX7_textTold : MethodName := ⟨RX7, "textTold", "(II)I"⟩
abbrev cX7_counts : ByteArray := prog_9_method_67_code
def yX7_counts : MethodName := ⟨RX7, "counts", "(I)I"⟩
abbrev cX7_why : ByteArray := prog_9_method_68_code
def yX7_why : MethodName := ⟨RX7, "why", "(I)I"⟩
abbrev cX7_two : ByteArray := prog_9_method_69_code
def yX7_two : MethodName := ⟨RX7, "two", "(III)I"⟩
abbrev cX7_worksOut : ByteArray := prog_9_method_70_code
def yX7_worksOut : MethodName := ⟨RX7, "worksOut", "(I)I"⟩
abbrev cX7_isSheet : ByteArray := prog_9_method_71_code
def yX7_isSheet : MethodName := ⟨RX7, "isSheet", "(I)Z"⟩
abbrev cX7_isSlot : ByteArray := prog_9_method_72_code
def yX7_isSlot : MethodName := ⟨RX7, "isSlot", "(I)Z"⟩
abbrev cX7_sheet : ByteArray := prog_9_method_73_code
def yX7_sheet : MethodName := ⟨RX7, "sheet", "(III)I"⟩
abbrev cX7_mark : ByteArray := prog_9_method_74_code
def yX7_mark : MethodName := ⟨RX7, "mark", "(III)I"⟩
abbrev cX7_pour : ByteArray := prog_9_method_75_code
def yX7_pour : MethodName := ⟨RX7, "pour", "(I)I"⟩
abbrev cX7_reads : ByteArray := prog_9_method_76_code
def yX7_reads : MethodName := ⟨RX7, "reads", "(I)I"⟩
abbrev cX7_copy : ByteArray := prog_9_method_77_code
def yX7_copy : MethodName := ⟨RX7, "copy", "(IIIII)I"⟩
abbrev cX7_lay : ByteArray := prog_9_method_78_code
def yX7_lay : MethodName := ⟨RX7, "lay", "(III)I"⟩
abbrev cX7_ask : ByteArray := prog_9_method_79_code
def yX7_ask : MethodName := ⟨RX7, "ask", "(II)I"⟩
abbrev cX7_item : ByteArray := prog_9_method_80_code
def yX7_item : MethodName := ⟨RX7, "item", "(II)I"⟩
abbrev cX7_rest : ByteArray := prog_9_method_81_code
def yX7_rest : MethodName := ⟨RX7, "rest", "(II)I"⟩
abbrev cX7_tell : ByteArray := prog_9_method_82_code
def yX7_tell : MethodName := ⟨RX7, "tell", "(I)I"⟩
abbrev cX7_check : ByteArray := prog_9_method_83_code
def yX7_check : MethodName := ⟨RX7, "check", "(I)I"⟩
abbrev cX7_keep : ByteArray := prog_9_method_84_code
def yX7_keep : MethodName := ⟨RX7, "keep", "()I"⟩
abbrev cX7_back : ByteArray := prog_9_method_85_code
def yX7_back : MethodName := ⟨RX7, "back", "()I"⟩
abbrev cX7_count : ByteArray := prog_9_method_86_code
def yX7_count : MethodName := ⟨RX7, "count", "(I)I"⟩
def RJ11 : String := "java/lang/Character"
def TJ11 : u_T := fun k => match k with
  | _ => ("", "", "", false)
def tyJ11 : Nat → FieldType := fun k => match k with
  | _ => .int
abbrev wsJ110 : List Cond := u_ws RJ11 TJ11 0
theorem nmJ11 : ∀ a, a < 0 → ∀ b, b < 0 → a ≠ b → (TJ11 a).2.1 ≠ (TJ11 b).2.1 := by decide +kernel
theorem tyJ11_ok : ∀ k, k < 0 → parseFieldDescriptor (TJ11 k).2.2.1 = some (tyJ11 k) := by decide +kernel
abbrev cJ11_isValidCodePoint_9a6ad : ByteArray := prog_10_method_11_code
def yJ11_isValidCodePoint_9a6ad : MethodName := ⟨RJ11, "isValidCodePoint", "(I)Z"⟩
abbrev cJ11_highSurrogate_5068e : ByteArray := prog_10_method_28_code
def yJ11_highSurrogate_5068e : MethodName := ⟨RJ11, "highSurrogate", "(I)C"⟩
abbrev cJ11_lowSurrogate_5068e : ByteArray := prog_10_method_29_code
def yJ11_lowSurrogate_5068e : MethodName := ⟨RJ11, "lowSurrogate", "(I)C"⟩
def RJ9 : String := "java/lang/Math"
def TJ9 : u_T := fun k => match k with
  | _ => ("", "", "", false)
def tyJ9 : Nat → FieldType := fun k => match k with
  | _ => .int
abbrev wsJ90 : List Cond := u_ws RJ9 TJ9 0
theorem nmJ9 : ∀ a, a < 0 → ∀ b, b < 0 → a ≠ b → (TJ9 a).2.1 ≠ (TJ9 b).2.1 := by decide +kernel
theorem tyJ9_ok : ∀ k, k < 0 → parseFieldDescriptor (TJ9 k).2.2.1 = some (tyJ9 k) := by decide +kernel
abbrev cJ9_abs_0f7a4 : ByteArray := prog_11_method_59_code
def yJ9_abs_0f7a4 : MethodName := ⟨RJ9, "abs", "(I)I"⟩
abbrev cJ9_max_7cf53 : ByteArray := prog_11_method_65_code
def yJ9_max_7cf53 : MethodName := ⟨RJ9, "max", "(II)I"⟩
abbrev cJ9_min_7cf53 : ByteArray := prog_11_method_69_code
def yJ9_min_7cf53 : MethodName := ⟨RJ9, "min", "(II)I"⟩
def RJ0 : String := "java/lang/String"
def TJ0 : u_T := fun k => match k with
  | _ => ("", "", "", false)
def tyJ0 : Nat → FieldType := fun k => match k with
  | _ => .int
abbrev wsJ00 : List Cond := u_ws RJ0 TJ0 0
theorem nmJ0 : ∀ a, a < 0 → ∀ b, b < 0 → a ≠ b → (TJ0 a).2.1 ≠ (TJ0 b).2.1 := by decide +kernel
theorem tyJ0_ok : ∀ k, k < 0 → parseFieldDescriptor (TJ0 k).2.2.1 = some (tyJ0 k) := by decide +kernel
abbrev cJ0_length_8abf5 : ByteArray := prog_12_method_54_code
def yJ0_length_8abf5 : MethodName := ⟨RJ0, "length", "()I"⟩
abbrev cJ0_charAt_5068e : ByteArray := prog_12_method_56_code
def yJ0_charAt_5068e : MethodName := ⟨RJ0, "charAt", "(I)C"⟩
abbrev cJ0_indexOf_0f7a4 : ByteArray := prog_12_method_79_code
def yJ0_indexOf_0f7a4 : MethodName := ⟨RJ0, "indexOf", "(I)I"⟩
abbrev cJ0_indexOf_7cf53 : ByteArray := prog_12_method_80_code
def yJ0_indexOf_7cf53 : MethodName := ⟨RJ0, "indexOf", "(II)I"⟩
abbrev cJ0_coder_7d493 : ByteArray := prog_12_method_152_code
def yJ0_coder_7d493 : MethodName := ⟨RJ0, "coder", "()B"⟩
abbrev cJ0_isLatin1_aae02 : ByteArray := prog_12_method_154_code
def yJ0_isLatin1_aae02 : MethodName := ⟨RJ0, "isLatin1", "()Z"⟩
abbrev cJ0_checkIndex_df160 : ByteArray := prog_12_method_155_code
def yJ0_checkIndex_df160 : MethodName := ⟨RJ0, "checkIndex", "(II)V"⟩
abbrev cJ0_checkBoundsBeginEnd_23922 : ByteArray := prog_12_method_158_code
def yJ0_checkBoundsBeginEnd_23922 : MethodName := ⟨RJ0, "checkBoundsBeginEnd", "(III)V"⟩
def RJ1 : String := "java/lang/StringLatin1"
def TJ1 : u_T := fun k => match k with
  | _ => ("", "", "", false)
def tyJ1 : Nat → FieldType := fun k => match k with
  | _ => .int
abbrev wsJ10 : List Cond := u_ws RJ1 TJ1 0
theorem nmJ1 : ∀ a, a < 0 → ∀ b, b < 0 → a ≠ b → (TJ1 a).2.1 ≠ (TJ1 b).2.1 := by decide +kernel
theorem tyJ1_ok : ∀ k, k < 0 → parseFieldDescriptor (TJ1 k).2.2.1 = some (tyJ1 k) := by decide +kernel
abbrev cJ1_charAt_3b067 : ByteArray := prog_13_method_2_code
def yJ1_charAt_3b067 : MethodName := ⟨RJ1, "charAt", "([BI)C"⟩
abbrev cJ1_canEncode_9a6ad : ByteArray := prog_13_method_4_code
def yJ1_canEncode_9a6ad : MethodName := ⟨RJ1, "canEncode", "(I)Z"⟩
abbrev cJ1_indexOf_4cfef : ByteArray := prog_13_method_22_code
def yJ1_indexOf_4cfef : MethodName := ⟨RJ1, "indexOf", "([BIII)I"⟩
abbrev cJ1_indexOfChar_4cfef : ByteArray := prog_13_method_23_code
def yJ1_indexOfChar_4cfef : MethodName := ⟨RJ1, "indexOfChar", "([BIII)I"⟩
def RJ2 : String := "java/lang/StringUTF16"
def TJ2 : u_T := fun k => match k with
  | _ => ("", "", "", false)
def tyJ2 : Nat → FieldType := fun k => match k with
  | _ => .int
abbrev wsJ20 : List Cond := u_ws RJ2 TJ2 0
theorem nmJ2 : ∀ a, a < 0 → ∀ b, b < 0 → a ≠ b → (TJ2 a).2.1 ≠ (TJ2 b).2.1 := by decide +kernel
theorem tyJ2_ok : ∀ k, k < 0 → parseFieldDescriptor (TJ2 k).2.2.1 = some (tyJ2 k) := by decide +kernel
abbrev cJ2_getChar_3b067 : ByteArray := prog_14_method_5_code
def yJ2_getChar_3b067 : MethodName := ⟨RJ2, "getChar", "([BI)C"⟩
abbrev cJ2_length_9d52b : ByteArray := prog_14_method_6_code
def yJ2_length_9d52b : MethodName := ⟨RJ2, "length", "([B)I"⟩
abbrev cJ2_indexOf_4cfef : ByteArray := prog_14_method_40_code
def yJ2_indexOf_4cfef : MethodName := ⟨RJ2, "indexOf", "([BIII)I"⟩
abbrev cJ2_indexOfChar_4cfef : ByteArray := prog_14_method_47_code
def yJ2_indexOfChar_4cfef : MethodName := ⟨RJ2, "indexOfChar", "([BIII)I"⟩
abbrev cJ2_indexOfCharUnsafe_4cfef : ByteArray := prog_14_method_48_code
def yJ2_indexOfCharUnsafe_4cfef : MethodName := ⟨RJ2, "indexOfCharUnsafe", "([BIII)I"⟩
abbrev cJ2_indexOfSupplementary_4cfef : ByteArray := prog_14_method_49_code
def yJ2_indexOfSupplementary_4cfef : MethodName := ⟨RJ2, "indexOfSupplementary", "([BIII)I"⟩
abbrev cJ2_charAt_3b067 : ByteArray := prog_14_method_83_code
def yJ2_charAt_3b067 : MethodName := ⟨RJ2, "charAt", "([BI)C"⟩
abbrev cJ2_checkIndex_2214a : ByteArray := prog_14_method_91_code
def yJ2_checkIndex_2214a : MethodName := ⟨RJ2, "checkIndex", "(I[B)V"⟩
abbrev cJ2_checkBoundsBeginEnd_d044e : ByteArray := prog_14_method_93_code
def yJ2_checkBoundsBeginEnd_d044e : MethodName := ⟨RJ2, "checkBoundsBeginEnd", "(II[B)V"⟩
def RJ10 : String := "java/lang/System"
def TJ10 : u_T := fun k => match k with
  | _ => ("", "", "", false)
def tyJ10 : Nat → FieldType := fun k => match k with
  | _ => .int
abbrev wsJ100 : List Cond := u_ws RJ10 TJ10 0
theorem nmJ10 : ∀ a, a < 0 → ∀ b, b < 0 → a ≠ b → (TJ10 a).2.1 ≠ (TJ10 b).2.1 := by decide +kernel
theorem tyJ10_ok : ∀ k, k < 0 → parseFieldDescriptor (TJ10 k).2.2.1 = some (tyJ10 k) := by decide +kernel
def RJ3 : String := "jdk/internal/util/Preconditions"
def TJ3 : u_T := fun k => match k with
  | _ => ("", "", "", false)
def tyJ3 : Nat → FieldType := fun k => match k with
  | _ => .int
abbrev wsJ30 : List Cond := u_ws RJ3 TJ3 0
theorem nmJ3 : ∀ a, a < 0 → ∀ b, b < 0 → a ≠ b → (TJ3 a).2.1 ≠ (TJ3 b).2.1 := by decide +kernel
theorem tyJ3_ok : ∀ k, k < 0 → parseFieldDescriptor (TJ3 k).2.2.1 = some (tyJ3 k) := by decide +kernel
abbrev cJ3_checkIndex_8e157 : ByteArray := prog_16_method_11_code
def yJ3_checkIndex_8e157 : MethodName := ⟨RJ3, "checkIndex", "(IILjava/util/function/BiFunction;)I"⟩
abbrev cJ3_checkFromToIndex_8c36e : ByteArray := prog_16_method_12_code
def yJ3_checkFromToIndex_8c36e : MethodName := ⟨RJ3, "checkFromToIndex", "(IIILjava/util/function/BiFunction;)I"⟩
def RL : String := "RoofSnowLaw"
abbrev cL_law : ByteArray := code
def yL_law : MethodName := ⟨RL, "law", "([I)Z"⟩
end
section
/-! ===== values, memory, shapes: what a state of the system is ===== -/
abbrev vwCl : List vw_C := [(RX0, TX0, 5), (RX1, TX1, 9), (RX2, TX2, 6), (RX3, TX3, 3), (RX4, TX4, 4), (RX5, TX5, 16), (RX6, TX6, 13), (RX7, TX7, 33)]
abbrev AV : Type := Int32 ⊕ ((Nat × Nat) ⊕ (Int64 ⊕ Unit))
abbrev Mem : Type := Nat → Nat → Nat → Int32
abbrev aI (x : Int32) : AV := .inl x
abbrev aR (r i : Nat) : AV := .inr (.inl (r, i))
abbrev aL (x : Int64) : AV := .inr (.inr (.inl x))
abbrev aN : AV := .inr (.inr (.inr ()))
def cv (ad : Nat → Nat → Nat) : AV → Value
  | .inl x => .int x
  | .inr (.inl q) => .ref (ad q.1 q.2)
  | .inr (.inr (.inl x)) => .long x
  | .inr (.inr (.inr _)) => .null
def isW : AV → Bool
  | .inr (.inr (.inl _)) => true
  | _ => false
theorem cv_cat (ad : Nat → Nat → Nat) (v : AV) : ((cv ad v).category == 2) = isW v := by
  rcases v with x | ⟨q⟩ | x | x <;> rfl
def ma (V : Mem) (r i : Nat) (f : Nat → Int32) : Mem := fun r' i' => if r' = r ∧ i' = i then f else V r' i'
def mu (V : Mem) (r i k : Nat) (x : Int32) : Mem := ma V r i (upd (V r i) k x)
theorem ma_same (V : Mem) (r i : Nat) (f : Nat → Int32) : ma V r i f r i = f := if_pos ⟨rfl, rfl⟩
theorem ma_ne {V : Mem} {r i r' i' : Nat} {f : Nat → Int32} (h : ¬ (r' = r ∧ i' = i)) : ma V r i f r' i' = V r' i' := if_neg h
abbrev Shp : Type := (Nat × List (Option (Nat × (Nat → Nat)))) ⊕ (Nat × FieldType × Option (Nat × (Nat → Nat → Nat)))
def sh : Nat → Shp := fun r => match r with
  | 0 => .inl (6, [some (1, fun _ => 0), some (2, fun _ => 0), some (2, fun _ => 1), some (2, fun _ => 2), none, some (17, fun _ => 0), none, some (6, fun _ => 0), some (19, fun _ => 0), some (20, fun _ => 0), some (21, fun _ => 0), none, some (22, fun _ => 0)])
  | 1 => .inl (0, [some (7, fun _ => 0), some (8, fun _ => 0), some (9, fun _ => 0), some (10, fun _ => 0), some (12, fun _ => 0)])
  | 2 => .inl (5, [some (1, fun _ => 0), some (13, fun i => i), some (14, fun i => i), some (15, fun i => i), some (16, fun i => i), none, none, none, none, none, none, none, none, none, none, none])
  | 3 => .inl (2, [none, none, none, none, none, none])
  | 4 => .inl (3, [none, none, some (23, fun i => i)])
  | 5 => .inl (4, [none, none, some (3, fun i => 24 + i), some (4, fun i => 4 + i)])
  | 6 => .inl (1, [some (17, fun _ => 0), some (18, fun _ => 0), none, none, none, none, none, none, none])
  | 7 => .inr (14, .int, none)
  | 8 => .inr (14, .int, none)
  | 9 => .inr (14, .int, none)
  | 10 => .inr (14, (.array .int), some (11, fun _ j => j))
  | 11 => .inr (96, .int, none)
  | 12 => .inr (96, .int, none)
  | 13 => .inr (8, (.object "RoofSnow$Roof"), some (3, fun i j => 8 * i + j))
  | 14 => .inr (24, .int, none)
  | 15 => .inr (24, .int, none)
  | 16 => .inr (3, .int, none)
  | 17 => .inr (96, .int, none)
  | 18 => .inr (96, .int, none)
  | 19 => .inr (4, (.object "RoofSnow$Sheet"), some (4, fun _ j => j))
  | 20 => .inr (5, (.object "RoofSnow$Slot"), some (5, fun _ j => j))
  | 21 => .inr (60, .int, none)
  | 22 => .inr (8, .int, none)
  | 23 => .inr (24, .int, none)
  | 24 => .inl (7, [some (25, fun _ => 0), some (26, fun _ => 0), some (27, fun _ => 0), none, some (28, fun _ => 0), some (29, fun _ => 0), none, none, none, none, none, none, none, some (30, fun _ => 0), some (31, fun _ => 0), some (32, fun _ => 0), none, none, some (33, fun _ => 0), none, some (34, fun _ => 0), some (35, fun _ => 0), some (36, fun _ => 0), some (37, fun _ => 0), some (38, fun _ => 0), some (39, fun _ => 0), some (40, fun _ => 0), some (41, fun _ => 0), some (42, fun _ => 0), some (43, fun _ => 0), some (44, fun _ => 0), some (45, fun _ => 0), none])
  | 25 => .inr (1479, .int, none)
  | 26 => .inr (1479, .int, none)
  | 27 => .inr (1479, .int, none)
  | 28 => .inr (107, .int, none)
  | 29 => .inr (96, .int, none)
  | 30 => .inr (13, .char, none)
  | 31 => .inr (4, .int, none)
  | 32 => .inr (96, .int, none)
  | 33 => .inr (96, .int, none)
  | 34 => .inr (10, .boolean, none)
  | 35 => .inr (96, .int, none)
  | 36 => .inr (4, .int, none)
  | 37 => .inr (4, .int, none)
  | 38 => .inr (4, .int, none)
  | 39 => .inr (96, .int, none)
  | 40 => .inr (5, .int, none)
  | 41 => .inr (5, .int, none)
  | 42 => .inr (5, .int, none)
  | 43 => .inr (120, .int, none)
  | 44 => .inr (24, .int, none)
  | 45 => .inr (60, .int, none)
  | _ => .inr (0, .int, none)
def cnt : Nat → Nat := fun r => match r with
  | 2 => 3
  | 3 => 29
  | 4 => 9
  | 5 => 5
  | 11 => 14
  | 13 => 3
  | 14 => 3
  | 15 => 3
  | 16 => 3
  | 23 => 9
  | _ => 1
def fv1 (ad : Nat → Nat → Nat) (f : Nat → Int32) (i k : Nat) : Option (Nat × (Nat → Nat)) → Value
  | none => Value.int (f k)
  | some q => Value.ref (ad q.1 (q.2 i))
def fvs (ad : Nat → Nat → Nat) (f : Nat → Int32) (i : Nat) (ks : List (Option (Nat × (Nat → Nat)))) : List Value := ks.mapIdx (fun k o => fv1 ad f i k o)
def cE (ad : Nat → Nat → Nat) (dA : Nat → Nat → ClassId) (f : Nat → Int32) (r i : Nat) : va_E := match sh r with
  | .inl q => .inr (q.1, fvs ad f i q.2)
  | .inr (n, _, none) => .inl (dA r i, n, .inl f)
  | .inr (n, _, some q) => .inl (dA r i, n, .inr (.inr (.inr (.inr (fun j => some (ad q.1 (q.2 i j)))))))
abbrev Uv : Type := List (Nat × Nat)
def wsU (ad : Nat → Nat → Nat) (dA : Nat → Nat → ClassId) (U : Uv) (V : Mem) : va_W := U.map (fun q => (ad q.1 q.2, cE ad dA (V q.1 q.2) q.1 q.2))
def tyU (dA : Nat → Nat → ClassId) (U : Uv) : List (ClassId × FieldType) := U.filterMap (fun q => match sh q.1 with | .inl _ => none | .inr s => some (dA q.1 q.2, s.2.1))
def AU (ad : Nat → Nat → Nat) (U : Uv) : Nat → Prop := fun q => ∃ x ∈ U, q = ad x.1 x.2
def Inj (ad : Nat → Nat → Nat) (U : Uv) : Prop := ∀ (i j : Nat) (x y : Nat × Nat), U[i]? = some x → U[j]? = some y → ad x.1 x.2 = ad y.1 y.2 → i = j
theorem ws_at {ad : Nat → Nat → Nat} {dA : Nat → Nat → ClassId} {U : Uv} (V : Mem) {r i : Nat} (h : (r, i) ∈ U) : ∃ p : Nat, U[p]? = some (r, i) ∧ (wsU ad dA U V)[p]? = some (ad r i, cE ad dA (V r i) r i) := by
  obtain ⟨p, hp⟩ := List.getElem?_of_mem h
  exact ⟨p, hp, by rw [wsU, List.getElem?_map, hp]; rfl⟩
theorem ty_at {dA : Nat → Nat → ClassId} {U : Uv} {r i n : Nat} {ty : FieldType} {o : Option (Nat × (Nat → Nat → Nat))} (h : (r, i) ∈ U) (hs : sh r = .inr (n, ty, o)) : ∃ t : Nat, (tyU dA U)[t]? = some (dA r i, ty) := by
  apply List.getElem?_of_mem
  refine List.mem_filterMap.mpr ⟨(r, i), h, ?_⟩
  simp only [hs]
theorem ws_D {ad : Nat → Nat → Nat} {dA : Nat → Nat → ClassId} {U : Uv} (V : Mem) (h : Inj ad U) : va_D (AU ad U) (wsU ad dA U V) := by
  have key : ∀ (k : Nat) (q : Nat × va_E), (wsU ad dA U V)[k]? = some q → ∃ x, U[k]? = some x ∧ q.1 = ad x.1 x.2 := by
    intro k q hk
    rw [wsU, List.getElem?_map] at hk
    cases hu : U[k]? with
    | none => rw [hu] at hk; cases hk
    | some x => rw [hu] at hk; cases hk; exact ⟨x, rfl, rfl⟩
  refine ⟨fun i j p q hi hj hpq => ?_, fun k q hk => ?_⟩
  · obtain ⟨x, h1, h2⟩ := key i p hi
    obtain ⟨y, h3, h4⟩ := key j q hj
    exact h i j x y h1 h3 (by rw [← h2, ← h4]; exact hpq)
  · obtain ⟨x, h1, h2⟩ := key k q hk
    exact ⟨x, List.mem_of_getElem? h1, h2⟩
theorem ws_set {ad : Nat → Nat → Nat} {dA : Nat → Nat → ClassId} {U : Uv} {V : Mem} {p r i : Nat} {f : Nat → Int32} {e : va_E} (hI : Inj ad U) (hp : U[p]? = some (r, i)) (he : cE ad dA f r i = e) : (wsU ad dA U V).set p (ad r i, e) = wsU ad dA U (ma V r i f) := by
  apply List.ext_getElem?
  intro k
  by_cases hk : k = p
  · subst hk
    have hl : k < (wsU ad dA U V).length := by rw [wsU, List.length_map]; exact (List.getElem?_eq_some_iff.mp hp).1
    rw [List.getElem?_set_self hl, wsU, List.getElem?_map, hp]
    show some (ad r i, e) = some (ad r i, cE ad dA (ma V r i f r i) r i)
    rw [ma_same, he]
  · rw [List.getElem?_set_ne (Ne.symm hk), wsU, wsU, List.getElem?_map, List.getElem?_map]
    cases hu : U[k]? with
    | none => rfl
    | some x =>
      have hne : ¬ (x.1 = r ∧ x.2 = i) := fun h => hk (hI k p x (r, i) hu hp (by rw [h.1, h.2]))
      show some (ad x.1 x.2, cE ad dA (V x.1 x.2) x.1 x.2) = some (ad x.1 x.2, cE ad dA (ma V r i f x.1 x.2) x.1 x.2)
      rw [ma_ne hne]
theorem fvs_get {ad : Nat → Nat → Nat} {f : Nat → Int32} {i k : Nat} {ks : List (Option (Nat × (Nat → Nat)))} {o : Option (Nat × (Nat → Nat))} (h : ks[k]? = some o) : (fvs ad f i ks)[k]? = some (fv1 ad f i k o) := by
  rw [fvs, List.getElem?_mapIdx, h]; rfl
theorem fvs_len {ad : Nat → Nat → Nat} {f : Nat → Int32} {i : Nat} {ks : List (Option (Nat × (Nat → Nat)))} : (fvs ad f i ks).length = ks.length := by
  rw [fvs, List.length_mapIdx]
theorem fvs_set {ad : Nat → Nat → Nat} {f : Nat → Int32} {i k : Nat} {x : Int32} {ks : List (Option (Nat × (Nat → Nat)))} (h : ks[k]? = some none) : fvs ad (upd f k x) i ks = (fvs ad f i ks).set k (.int x) := by
  apply List.ext_getElem?
  intro j
  by_cases hj : j = k
  · subst hj
    have hl : j < (fvs ad f i ks).length := by rw [fvs_len]; exact (List.getElem?_eq_some_iff.mp h).1
    rw [List.getElem?_set_self hl, fvs_get h]
    simp [upd, fv1]
  · rw [List.getElem?_set_ne (Ne.symm hj), fvs, fvs, List.getElem?_mapIdx, List.getElem?_mapIdx]
    cases hk : ks[j]? with
    | none => rfl
    | some o =>
      cases o with
      | none => simp [upd, hj, fv1]
      | some q => rfl
/-! ===== what is there before the law begins: the table of kinds, the six words, two statics of the library ===== -/
def abF : Nat → Value := fun j => match j with | 0 => .int (-1) | 1 => .int 0 | 2 => .int 0 | 3 => .int 1 | 4 => .int 2 | _ => .int 0
def nStr : Nat := 6
def lenS : List Nat := [4, 5, 4, 3, 2, 2]
def bytS : List (List Int32) := [[109, 101, 108, 116], [111, 119, 110, 101, 114], [102, 105, 110, 101], [119, 115, 122], [104, 119], [119, 115]]
def Fz (ad : Nat → Nat → Nat) (A : Nat → Prop) (T : State) (H : Heap) : Prop :=
  va_Z "RoofSnow" "ABOVE" "[I" (.ref (ad 60 0)) A T H ∧ va_T .int (ad 60 0) 6 abF A T H ∧ vk_S nStr lenS bytS (ad 61) (ad 62) A T H ∧
  va_Z "java/lang/String" "COMPACT_STRINGS" "Z" (.int 1) A T H ∧
  (va_Z "jdk/internal/util/Preconditions" "SIOOBE_FORMATTER" "Ljava/util/function/BiFunction;" .null A T H ∨ va_Z "jdk/internal/util/Preconditions" "SIOOBE_FORMATTER" "Ljava/util/function/BiFunction;" (.ref (ad 63 0)) A T H) ∧
  vk_R RX1 100 "melt" (ad 61 0) T ∧ vk_R RX1 102 "owner" (ad 61 1) T ∧ vk_R RX1 104 "fine" (ad 61 2) T ∧ vk_R RX1 106 "wsz" (ad 61 3) T ∧ vk_R RX1 108 "hw" (ad 61 4) T ∧ vk_R RX1 110 "ws" (ad 61 5) T
theorem Fz.warm {ad : Nat → Nat → Nat} {A : Nat → Prop} {s T : State} {H : Heap} (hW : s.WarmedH T.vm) (h : Fz ad A s H) : Fz ad A T H := by
  obtain ⟨h1, h2, h3, h4, h5, r0, r1, r2, r3, r4, r5⟩ := h
  exact ⟨h1.moved hW.alike, h2.moved hW.alike, h3.moved hW.alike, h4.moved hW.alike, h5.elim (fun z => Or.inl (z.moved hW.alike)) (fun z => Or.inr (z.moved hW.alike)), r0.warm hW, r1.warm hW, r2.warm hW, r3.warm hW, r4.warm hW, r5.warm hW⟩
theorem Fz.same {ad : Nat → Nat → Nat} {A : Nat → Prop} {s T : State} {H : Heap} (hv : T.vm = s.vm) (h : Fz ad A s H) : Fz ad A T H := by
  have ha : s.vm.Alike T.vm := by rw [hv]; exact Vm.Alike.refl _
  obtain ⟨h1, h2, h3, h4, h5, r0, r1, r2, r3, r4, r5⟩ := h
  exact ⟨h1.moved ha, h2.moved ha, h3.moved ha, h4.moved ha, h5.elim (fun z => Or.inl (z.moved ha)) (fun z => Or.inr (z.moved ha)), r0.same hv, r1.same hv, r2.same hv, r3.same hv, r4.same hv, r5.same hv⟩
theorem Fz.kept {ad : Nat → Nat → Nat} {A : Nat → Prop} {s : State} {H H1 : Heap} (h : Fz ad A s H) (hq : ∀ a : Nat, a < H.size → ¬ A a → H1[a]? = H[a]?) : Fz ad A s H1 := by
  obtain ⟨h1, h2, h3, h4, h5, hr⟩ := h
  exact ⟨h1.kept hq, h2.kept hq, h3.kept hq, h4.kept hq, h5.elim (fun z => Or.inl (z.kept hq)) (fun z => Or.inr (z.kept hq)), hr⟩
theorem Fz.narrow {ad : Nat → Nat → Nat} {A B : Nat → Prop} {s : State} {H : Heap} (h : Fz ad A s H) (hAB : ∀ q, B q → A q) : Fz ad B s H := by
  obtain ⟨h1, h2, h3, h4, h5, hr⟩ := h
  exact ⟨h1.narrow hAB, h2.narrow hAB, h3.narrow hAB, h4.narrow hAB, h5.elim (fun z => Or.inl (z.narrow hAB)) (fun z => Or.inr (z.narrow hAB)), hr⟩
/-! ===== contracts over memories, and the walk of a body ===== -/
def WSU : List Cond := lw_tbl.filter goodWord
theorem wsu_of {w : Cond} (i : Nat) (h : lw_tbl[i]? = some w) (hg : goodWord w = true) : w ∈ WSU := List.mem_filter.mpr ⟨List.mem_of_getElem? h, hg⟩
theorem wsu_good {ws : List Cond} (h : ∀ w ∈ ws, w ∈ WSU) : GoodIn WSU ws := fun w hw => ⟨h w hw, good_of_word (List.mem_filter.mp (h w hw)).2⟩
abbrev MI : Type := MethodName × ByteArray × Nat × Option FieldType
def rmD (d : Nat) : Room := { frames := d, cells := 0, slots := 0, locals := 64 * d }
def PB (ad : Nat → Nat → Nat) (D : va_G) (dA : Nat → Nat → ClassId) (U : Uv) (V : Mem) (T : State) : Prop :=
  va_P D vwCl (wsU ad dA U V) T.heap ∧ va_K D vwCl (tyU dA U) T ∧ Inj ad U ∧ Fz ad (AU ad U) T T.heap
def QR (ad : Nat → Nat → Nat) (D : va_G) (dA : Nat → Nat → ClassId) (U : Uv) (P : Option AV → Mem → Prop) : Array Value → State → Outcome → State → Prop := fun _ st oc t =>
  (∃ (v : Option AV) (V' : Mem), oc = .returned (v.map (cv ad)) ∧ P v V' ∧ PB ad D dA U V' t) ∧ va_F (AU ad U) st t
def wsM (M : MI) : List Cond := Cond.code M.1 M.2.1 M.2.2.1 M.2.2.2 :: WSU
def Cl (U : Uv) (d : Nat) (M : MI) (as : List AV) (V : Mem) (P : Option AV → Mem → Prop) : Prop :=
  ∀ (l : Launch) (ad : Nat → Nat → Nat) (D : va_G) (dA : Nat → Nat → ClassId), Met l M.1 (wsM M) (rmD d) (va_Pc (as.map (cv ad)) (PB ad D dA U V)) (QR ad D dA U P) 0 0 (AU ad U)
def Ctx (p : Program) (s : State) (m : MethodId) (args : Array Value) (c : Code) (ad : Nat → Nat → Nat) (D : va_G) (dA : Nat → Nat → ClassId) (U : Uv) (A : Nat → Prop) (cc : ByteArray) (nL : Nat) (own : String) : Prop :=
  p.tables.exec = Jvm.exec ∧ c.code = cc ∧ c.maxLocals = nL ∧ s.vm.findClass own = some m.cls ∧ (∀ w ∈ WSU, w.before args s = true) ∧ va_K D vwCl (tyU dA U) s ∧ Inj ad U ∧ (∀ q, AU ad U q → A q) ∧ Fz ad A s s.heap
abbrev KT : Type := Program → Launch → Env → Room → State → MethodId → Array Value → List Frame → Method → Code → (Nat → Nat → Nat) → va_G → (Nat → Nat → ClassId) → (Nat → Prop) → Nat → Nat → (State → Prop) → Prop
abbrev cvl (ad : Nat → Nat → Nat) (al : List (Nat × AV)) : List (Nat × Value) := al.map (fun q => (q.1, cv ad q.2))
def Gq (Φ : KT) (U : Uv) (cc : ByteArray) (nL : Nat) (own : String) (pc : Nat) (al : List (Nat × AV)) (st : List AV) (V : Mem) : Prop :=
  ∀ (p : Program) (l : Launch) (e : Env) (R : Room) (s : State) (m : MethodId) (args : Array Value) (below : List Frame) (meth : Method) (c : Code) (ad : Nat → Nat → Nat) (D : va_G) (dA : Nat → Nat → ClassId) (A : Nat → Prop) (cells slots : Nat) (Qf : State → Prop),
    Φ p l e R s m args below meth c ad D dA A cells slots Qf → Ctx p s m args c ad D dA U A cc nL own →
    ∀ (H : Heap) (locs : List Loc) (ls : Array Slot), va_P D vwCl (wsU ad dA U V) H → va_S A s.heap H locs → lv_has ls nL (cvl ad al) →
      W p l e R s m args below meth c H locs cells slots Qf (F0 m pc ls (st.map (cv ad)))
/-- the context of a method's body -/
def Kp (d : Nat) (M : MI) (U : Uv) (P : Option AV → Mem → Prop) : KT := fun p l e R s m args below meth c ad D dA A cells slots Qf =>
  R = rmD d ∧ A = AU ad U ∧ cells = 0 ∧ slots = 0 ∧ Qf = MQ below (QR ad D dA U P) args s 0 0 (AU ad U) ∧ meth.sig.returnType = M.2.2.2 ∧ meth.locks = false
theorem cl_of {U : Uv} {d : Nat} {M : MI} {as : List AV} {V : Mem} {P : Option AV → Mem → Prop} (al : List (Nat × AV)) (hy : plainName M.1.cls = true) (hn : ∀ ad, (lg_sl (as.map (cv ad))).length ≤ M.2.2.1) (hal : ∀ ad, lv_args 0 (as.map (cv ad)) = cvl ad al)
    (h : Gq (Kp d M U P) U M.2.1 M.2.2.1 M.1.cls 0 al [] V) : Cl U d M as V P := by
  intro l ad D dA
  refine Met.ofW (cc := M.2.1) (maxL := M.2.2.1) (ret := M.2.2.2) hy rfl ?_
  intro p e s m args below meth c s₁ B hml hv
  obtain ⟨rfl, hP, hK, hI, hF⟩ := hv
  have hts := atoms_spec (ws := wsM M) B.pre
  have hown : s.vm.findClass M.1.cls = some m.cls := findClass_of_methodNamed B.named
  rw [lg_entry_eq]
  have hl := lv_entry (as.map (cv ad)) (hn ad)
  rw [hal ad] at hl
  exact h p l e (rmD d) s m _ below meth c ad D dA (AU ad U) 0 0 _ ⟨rfl, rfl, rfl, rfl, rfl, B.returns, B.notSynchronized⟩
    ⟨B.exec, B.bytes, hml, hown, fun w hw => hts w (List.mem_cons_of_mem _ hw), hK, hI, fun _ h => h, hF⟩ s.heap [] _ hP va_S.rf hl
/-! ===== rows: one an instruction ===== -/
def st1 (i : Nat) (v : AV) (al : List (Nat × AV)) : List (Nat × AV) := (i, v) :: al.filter (fun q => !(q.1 == i) && !(q.1 + 1 == i && isW q.2))
def st2 (i : Nat) (v : AV) (al : List (Nat × AV)) : List (Nat × AV) := (i, v) :: al.filter (fun q => !(q.1 == i) && (!(q.1 == i + 1) && !(q.1 + 1 == i && isW q.2)))
theorem st1_map (ad : Nat → Nat → Nat) (i : Nat) (v : AV) (al : List (Nat × AV)) : (i, cv ad v) :: (cvl ad al).filter (fun q => !(q.1 == i) && !(q.1 + 1 == i && q.2.category == 2)) = cvl ad (st1 i v al) := by
  unfold cvl st1
  rw [List.map_cons, List.filter_map]
  congr 1
  congr 1
  apply List.filter_congr
  intro q _
  simp only [Function.comp, cv_cat]
theorem st2_map (ad : Nat → Nat → Nat) (i : Nat) (v : AV) (al : List (Nat × AV)) : (i, cv ad v) :: (cvl ad al).filter (fun q => !(q.1 == i) && (!(q.1 == i + 1) && !(q.1 + 1 == i && q.2.category == 2))) = cvl ad (st2 i v al) := by
  unfold cvl st2
  rw [List.map_cons, List.filter_map]
  congr 1
  congr 1
  apply List.filter_congr
  intro q _
  simp only [Function.comp, cv_cat]
theorem lv_al {ad : Nat → Nat → Nat} {ls : Array Slot} {nL : Nat} {al : List (Nat × AV)} (h : lv_has ls nL (cvl ad al)) {k i : Nat} {v : AV} (hk : al[k]? = some (i, v)) : ls[i]? = some (.val (cv ad v)) :=
  lv_at h k (by rw [cvl, List.getElem?_map, hk]; rfl)
end
section
theorem cat1 (ad : Nat → Nat → Nat) {a : AV} (h : isW a = false) : (cv ad a).category = 1 := by
  rcases a with x | ⟨q⟩ | x | x
  · rfl
  · rfl
  · cases h
  · rfl
theorem cat_sum (ad : Nat → Nat → Nat) (st : List AV) : ((st.map (cv ad)).map fun v => v.category).sum = (st.map fun v => if isW v then 2 else 1).sum := by
  induction st with
  | nil => rfl
  | cons a t ih =>
    simp only [List.map_cons, List.sum_cons, ih]
    congr 1
    rcases a with x | ⟨q⟩ | x | x <;> rfl
section ROWS
variable {Φ : KT} {U : Uv} {cc : ByteArray} {nL : Nat} {own : String} {pc : Nat} {al : List (Nat × AV)} {st : List AV} {V : Mem}
def HR (Φ : KT) (d : Nat) : Prop := ∀ (p : Program) (l : Launch) (e : Env) (R : Room) (s : State) (m : MethodId) (args : Array Value) (below : List Frame) (meth : Method) (c : Code) (ad : Nat → Nat → Nat) (D : va_G) (dA : Nat → Nat → ClassId) (A : Nat → Prop) (cells slots : Nat) (Qf : State → Prop),
    Φ p l e R s m args below meth c ad D dA A cells slots Qf → d + 1 ≤ R.frames ∧ 64 * d + 64 ≤ R.locals ∧ cells ≤ R.cells ∧ slots ≤ R.slots
theorem hr_Kp {d d' : Nat} {M : MI} {U : Uv} {P : Option AV → Mem → Prop} (h : d' ≤ d) : HR (Kp (d + 1) M U P) d' := by
  intro p l e R s m args below meth c ad D dA A cells slots Qf hf
  obtain ⟨rfl, -, rfl, rfl, -⟩ := hf
  refine ⟨?_, ?_, Nat.zero_le _, Nat.zero_le _⟩
  · show d' + 1 ≤ d + 1
    omega
  · show 64 * d' + 64 ≤ 64 * (d + 1)
    omega

theorem go_iconst {n : Int} {v : Int32} (hd : decode cc pc = .ok (.iconst n, 1)) (hv : Int32.ofInt n = v) (k : Gq Φ U cc nL own (pc + 1) al (aI v :: st) V) : Gq Φ U cc nL own pc al (st) V := by
  intro p l e R s m args below meth c ad D dA A cells slots Qf hf hC H locs ls hP hS hl
  exact lv_iconst hC.1 hC.2.1 hd hv (k p l e R s m args below meth c ad D dA A cells slots Qf hf hC H locs ls hP hS hl)
theorem go_bipush {n : Int} {v : Int32} (hd : decode cc pc = .ok (.bipush n, 2)) (hv : (Int8.ofInt n).toInt32 = v) (k : Gq Φ U cc nL own (pc + 2) al (aI v :: st) V) : Gq Φ U cc nL own pc al (st) V := by
  intro p l e R s m args below meth c ad D dA A cells slots Qf hf hC H locs ls hP hS hl
  exact lv_bipush hC.1 hC.2.1 hd hv (k p l e R s m args below meth c ad D dA A cells slots Qf hf hC H locs ls hP hS hl)
theorem go_sipush {n : Int} {v : Int32} (hd : decode cc pc = .ok (.sipush n, 3)) (hv : (Int16.ofInt n).toInt32 = v) (k : Gq Φ U cc nL own (pc + 3) al (aI v :: st) V) : Gq Φ U cc nL own pc al (st) V := by
  intro p l e R s m args below meth c ad D dA A cells slots Qf hf hC H locs ls hP hS hl
  exact lv_sipush hC.1 hC.2.1 hd hv (k p l e R s m args below meth c ad D dA A cells slots Qf hf hC H locs ls hP hS hl)
theorem go_lconst {n : Fin 2} {v : Int64} (hd : decode cc pc = .ok (.lconst n, 1)) (hv : Int64.ofNat (n : Nat) = v) (k : Gq Φ U cc nL own (pc + 1) al (aL v :: st) V) : Gq Φ U cc nL own pc al (st) V := by
  intro p l e R s m args below meth c ad D dA A cells slots Qf hf hC H locs ls hP hS hl
  exact lv_lconst hC.1 hC.2.1 hd hv (k p l e R s m args below meth c ad D dA A cells slots Qf hf hC H locs ls hP hS hl)
theorem go_ldc {ix : Nat} {v : Int32} (hd : decode cc pc = .ok (.ldc ix, 2)) (hw : Cond.constant own ix v ∈ WSU) (k : Gq Φ U cc nL own (pc + 2) al (aI v :: st) V) : Gq Φ U cc nL own pc al (st) V := by
  intro p l e R s m args below meth c ad D dA A cells slots Qf hf hC H locs ls hP hS hl
  exact lv_ldc hC.1 hC.2.1 hC.2.2.2.1 (hC.2.2.2.2.1 _ hw) hd (k p l e R s m args below meth c ad D dA A cells slots Qf hf hC H locs ls hP hS hl)
theorem go_ldcw {ix : Nat} {v : Int32} (hd : decode cc pc = .ok (.ldc_w ix, 3)) (hw : Cond.constant own ix v ∈ WSU) (k : Gq Φ U cc nL own (pc + 3) al (aI v :: st) V) : Gq Φ U cc nL own pc al (st) V := by
  intro p l e R s m args below meth c ad D dA A cells slots Qf hf hC H locs ls hP hS hl
  exact lv_ldcw hC.1 hC.2.1 hC.2.2.2.1 (hC.2.2.2.2.1 _ hw) hd (k p l e R s m args below meth c ad D dA A cells slots Qf hf hC H locs ls hP hS hl)
theorem go_iload_n {n : Fin 4} {i q : Nat} {x : Int32} (hd : decode cc pc = .ok (.iload_n n, 1)) (hi : (n : Nat) = i) (hv : al[q]? = some (i, aI x)) (k : Gq Φ U cc nL own (pc + 1) al (aI x :: st) V) : Gq Φ U cc nL own pc al (st) V := by
  intro p l e R s m args below meth c ad D dA A cells slots Qf hf hC H locs ls hP hS hl
  exact lv_iload_n hC.1 hC.2.1 hd hi (lv_al hl hv) (k p l e R s m args below meth c ad D dA A cells slots Qf hf hC H locs ls hP hS hl)
theorem go_iload {i q : Nat} {x : Int32} (hd : decode cc pc = .ok (.iload i, 2)) (hv : al[q]? = some (i, aI x)) (k : Gq Φ U cc nL own (pc + 2) al (aI x :: st) V) : Gq Φ U cc nL own pc al (st) V := by
  intro p l e R s m args below meth c ad D dA A cells slots Qf hf hC H locs ls hP hS hl
  exact lv_iload hC.1 hC.2.1 hd (lv_al hl hv) (k p l e R s m args below meth c ad D dA A cells slots Qf hf hC H locs ls hP hS hl)
theorem go_lload_n {n : Fin 4} {i q : Nat} {x : Int64} (hd : decode cc pc = .ok (.lload_n n, 1)) (hi : (n : Nat) = i) (hv : al[q]? = some (i, aL x)) (k : Gq Φ U cc nL own (pc + 1) al (aL x :: st) V) : Gq Φ U cc nL own pc al (st) V := by
  intro p l e R s m args below meth c ad D dA A cells slots Qf hf hC H locs ls hP hS hl
  exact lv_lload_n hC.1 hC.2.1 hd hi (lv_al hl hv) (k p l e R s m args below meth c ad D dA A cells slots Qf hf hC H locs ls hP hS hl)
theorem go_lload {i q : Nat} {x : Int64} (hd : decode cc pc = .ok (.lload i, 2)) (hv : al[q]? = some (i, aL x)) (k : Gq Φ U cc nL own (pc + 2) al (aL x :: st) V) : Gq Φ U cc nL own pc al (st) V := by
  intro p l e R s m args below meth c ad D dA A cells slots Qf hf hC H locs ls hP hS hl
  exact lv_lload hC.1 hC.2.1 hd (lv_al hl hv) (k p l e R s m args below meth c ad D dA A cells slots Qf hf hC H locs ls hP hS hl)
theorem go_aload_n {n : Fin 4} {i q r j : Nat} (hd : decode cc pc = .ok (.aload_n n, 1)) (hi : (n : Nat) = i) (hv : al[q]? = some (i, aR r j)) (k : Gq Φ U cc nL own (pc + 1) al (aR r j :: st) V) : Gq Φ U cc nL own pc al (st) V := by
  intro p l e R s m args below meth c ad D dA A cells slots Qf hf hC H locs ls hP hS hl
  exact lv_aload_n hC.1 hC.2.1 hd hi (lv_al hl hv) (k p l e R s m args below meth c ad D dA A cells slots Qf hf hC H locs ls hP hS hl)
theorem go_aload {i q r j : Nat} (hd : decode cc pc = .ok (.aload i, 2)) (hv : al[q]? = some (i, aR r j)) (k : Gq Φ U cc nL own (pc + 2) al (aR r j :: st) V) : Gq Φ U cc nL own pc al (st) V := by
  intro p l e R s m args below meth c ad D dA A cells slots Qf hf hC H locs ls hP hS hl
  exact lv_aload hC.1 hC.2.1 hd (lv_al hl hv) (k p l e R s m args below meth c ad D dA A cells slots Qf hf hC H locs ls hP hS hl)
theorem go_istore_n {n : Fin 4} {i : Nat} {x : Int32} {al1 : List (Nat × AV)} (hd : decode cc pc = .ok (.istore_n n, 1)) (hi : (n : Nat) = i) (hn : i < nL) (ha : st1 i (aI x) al = al1) (k : Gq Φ U cc nL own (pc + 1) al1 st V) : Gq Φ U cc nL own pc al (aI x :: st) V := by
  intro p l e R s m args below meth c ad D dA A cells slots Qf hf hC H locs ls hP hS hl
  subst ha
  exact lv_istore_n hC.1 hC.2.1 hd hi hl hn (st1_map ad i (aI x) al) (fun ls1 hl1 => (k p l e R s m args below meth c ad D dA A cells slots Qf hf hC H locs ls1 hP hS hl1))
theorem go_istore {i : Nat} {x : Int32} {al1 : List (Nat × AV)} (hd : decode cc pc = .ok (.istore i, 2))  (hn : i < nL) (ha : st1 i (aI x) al = al1) (k : Gq Φ U cc nL own (pc + 2) al1 st V) : Gq Φ U cc nL own pc al (aI x :: st) V := by
  intro p l e R s m args below meth c ad D dA A cells slots Qf hf hC H locs ls hP hS hl
  subst ha
  exact lv_istore hC.1 hC.2.1 hd hl hn (st1_map ad i (aI x) al) (fun ls1 hl1 => (k p l e R s m args below meth c ad D dA A cells slots Qf hf hC H locs ls1 hP hS hl1))
theorem go_lstore_n {n : Fin 4} {i : Nat} {x : Int64} {al1 : List (Nat × AV)} (hd : decode cc pc = .ok (.lstore_n n, 1)) (hi : (n : Nat) = i) (hn : i + 1 < nL) (ha : st2 i (aL x) al = al1) (k : Gq Φ U cc nL own (pc + 1) al1 st V) : Gq Φ U cc nL own pc al (aL x :: st) V := by
  intro p l e R s m args below meth c ad D dA A cells slots Qf hf hC H locs ls hP hS hl
  subst ha
  exact lv_lstore_n hC.1 hC.2.1 hd hi hl hn (st2_map ad i (aL x) al) (fun ls1 hl1 => (k p l e R s m args below meth c ad D dA A cells slots Qf hf hC H locs ls1 hP hS hl1))
theorem go_lstore {i : Nat} {x : Int64} {al1 : List (Nat × AV)} (hd : decode cc pc = .ok (.lstore i, 2))  (hn : i + 1 < nL) (ha : st2 i (aL x) al = al1) (k : Gq Φ U cc nL own (pc + 2) al1 st V) : Gq Φ U cc nL own pc al (aL x :: st) V := by
  intro p l e R s m args below meth c ad D dA A cells slots Qf hf hC H locs ls hP hS hl
  subst ha
  exact lv_lstore hC.1 hC.2.1 hd hl hn (st2_map ad i (aL x) al) (fun ls1 hl1 => (k p l e R s m args below meth c ad D dA A cells slots Qf hf hC H locs ls1 hP hS hl1))
theorem go_astore_n {n : Fin 4} {i r j : Nat} {al1 : List (Nat × AV)} (hd : decode cc pc = .ok (.astore_n n, 1)) (hi : (n : Nat) = i) (hn : i < nL) (ha : st1 i (aR r j) al = al1) (k : Gq Φ U cc nL own (pc + 1) al1 st V) : Gq Φ U cc nL own pc al (aR r j :: st) V := by
  intro p l e R s m args below meth c ad D dA A cells slots Qf hf hC H locs ls hP hS hl
  subst ha
  exact lv_astore_n hC.1 hC.2.1 hd hi hl hn (st1_map ad i (aR r j) al) (fun ls1 hl1 => (k p l e R s m args below meth c ad D dA A cells slots Qf hf hC H locs ls1 hP hS hl1))
theorem go_astore {i r j : Nat} {al1 : List (Nat × AV)} (hd : decode cc pc = .ok (.astore i, 2))  (hn : i < nL) (ha : st1 i (aR r j) al = al1) (k : Gq Φ U cc nL own (pc + 2) al1 st V) : Gq Φ U cc nL own pc al (aR r j :: st) V := by
  intro p l e R s m args below meth c ad D dA A cells slots Qf hf hC H locs ls hP hS hl
  subst ha
  exact lv_astore hC.1 hC.2.1 hd hl hn (st1_map ad i (aR r j) al) (fun ls1 hl1 => (k p l e R s m args below meth c ad D dA A cells slots Qf hf hC H locs ls1 hP hS hl1))
theorem go_iinc {i q : Nat} {n : Int} {x y : Int32} {al1 : List (Nat × AV)} (hd : decode cc pc = .ok (.iinc i n, 3)) (hv : al[q]? = some (i, aI x)) (hy : Int32.ofInt n = y) (hn : i < nL) (ha : st1 i (aI (x + y)) al = al1) (k : Gq Φ U cc nL own (pc + 3) al1 st V) : Gq Φ U cc nL own pc al st V := by
  intro p l e R s m args below meth c ad D dA A cells slots Qf hf hC H locs ls hP hS hl
  subst ha
  subst hy
  exact lv_iinc (k := q) (x := x) hC.1 hC.2.1 hd hl (by rw [cvl, List.getElem?_map, hv]; rfl) rfl hn (st1_map ad i (aI (x + Int32.ofInt n)) al) (fun ls1 hl1 => (k p l e R s m args below meth c ad D dA A cells slots Qf hf hC H locs ls1 hP hS hl1))
theorem go_iadd {x y : Int32} (hd : decode cc pc = .ok (.iadd, 1))  (k : Gq Φ U cc nL own (pc + 1) al (aI (x + y) :: st) V) : Gq Φ U cc nL own pc al (aI y :: aI x :: st) V := by
  intro p l e R s m args below meth c ad D dA A cells slots Qf hf hC H locs ls hP hS hl
  exact lv_iadd hC.1 hC.2.1 hd (k p l e R s m args below meth c ad D dA A cells slots Qf hf hC H locs ls hP hS hl)
theorem go_isub {x y : Int32} (hd : decode cc pc = .ok (.isub, 1))  (k : Gq Φ U cc nL own (pc + 1) al (aI (x - y) :: st) V) : Gq Φ U cc nL own pc al (aI y :: aI x :: st) V := by
  intro p l e R s m args below meth c ad D dA A cells slots Qf hf hC H locs ls hP hS hl
  exact lv_isub hC.1 hC.2.1 hd (k p l e R s m args below meth c ad D dA A cells slots Qf hf hC H locs ls hP hS hl)
theorem go_imul {x y : Int32} (hd : decode cc pc = .ok (.imul, 1))  (k : Gq Φ U cc nL own (pc + 1) al (aI (x * y) :: st) V) : Gq Φ U cc nL own pc al (aI y :: aI x :: st) V := by
  intro p l e R s m args below meth c ad D dA A cells slots Qf hf hC H locs ls hP hS hl
  exact lv_imul hC.1 hC.2.1 hd (k p l e R s m args below meth c ad D dA A cells slots Qf hf hC H locs ls hP hS hl)
theorem go_iand {x y : Int32} (hd : decode cc pc = .ok (.iand, 1))  (k : Gq Φ U cc nL own (pc + 1) al (aI (x &&& y) :: st) V) : Gq Φ U cc nL own pc al (aI y :: aI x :: st) V := by
  intro p l e R s m args below meth c ad D dA A cells slots Qf hf hC H locs ls hP hS hl
  exact lv_iand hC.1 hC.2.1 hd (k p l e R s m args below meth c ad D dA A cells slots Qf hf hC H locs ls hP hS hl)
theorem go_ishr {x y : Int32} (hd : decode cc pc = .ok (.ishr, 1))  (k : Gq Φ U cc nL own (pc + 1) al (aI (x >>> (y &&& 31)) :: st) V) : Gq Φ U cc nL own pc al (aI y :: aI x :: st) V := by
  intro p l e R s m args below meth c ad D dA A cells slots Qf hf hC H locs ls hP hS hl
  exact lv_ishr hC.1 hC.2.1 hd (k p l e R s m args below meth c ad D dA A cells slots Qf hf hC H locs ls hP hS hl)
theorem go_iushr {x y : Int32} (hd : decode cc pc = .ok (.iushr, 1))  (k : Gq Φ U cc nL own (pc + 1) al (aI ((x.toUInt32 >>> (y.toUInt32 &&& Int32.toUInt32 31)).toInt32) :: st) V) : Gq Φ U cc nL own pc al (aI y :: aI x :: st) V := by
  intro p l e R s m args below meth c ad D dA A cells slots Qf hf hC H locs ls hP hS hl
  exact lv_iushr hC.1 hC.2.1 hd rfl (k p l e R s m args below meth c ad D dA A cells slots Qf hf hC H locs ls hP hS hl)
theorem go_idiv {x y : Int32} (hd : decode cc pc = .ok (.idiv, 1)) (hne : ¬ y = 0) (k : Gq Φ U cc nL own (pc + 1) al (aI (x / y) :: st) V) : Gq Φ U cc nL own pc al (aI y :: aI x :: st) V := by
  intro p l e R s m args below meth c ad D dA A cells slots Qf hf hC H locs ls hP hS hl
  exact lv_idiv hC.1 hC.2.1 hd hne (k p l e R s m args below meth c ad D dA A cells slots Qf hf hC H locs ls hP hS hl)
theorem go_irem {x y : Int32} (hd : decode cc pc = .ok (.irem, 1)) (hne : ¬ y = 0) (k : Gq Φ U cc nL own (pc + 1) al (aI (x - x / y * y) :: st) V) : Gq Φ U cc nL own pc al (aI y :: aI x :: st) V := by
  intro p l e R s m args below meth c ad D dA A cells slots Qf hf hC H locs ls hP hS hl
  exact lv_irem hC.1 hC.2.1 hd hne (k p l e R s m args below meth c ad D dA A cells slots Qf hf hC H locs ls hP hS hl)
theorem go_ineg {x : Int32} (hd : decode cc pc = .ok (.ineg, 1))  (k : Gq Φ U cc nL own (pc + 1) al (aI (-x) :: st) V) : Gq Φ U cc nL own pc al (aI x :: st) V := by
  intro p l e R s m args below meth c ad D dA A cells slots Qf hf hC H locs ls hP hS hl
  exact lv_ineg hC.1 hC.2.1 hd (k p l e R s m args below meth c ad D dA A cells slots Qf hf hC H locs ls hP hS hl)
theorem go_ladd {x y : Int64} (hd : decode cc pc = .ok (.ladd, 1))  (k : Gq Φ U cc nL own (pc + 1) al (aL (x + y) :: st) V) : Gq Φ U cc nL own pc al (aL y :: aL x :: st) V := by
  intro p l e R s m args below meth c ad D dA A cells slots Qf hf hC H locs ls hP hS hl
  exact lv_ladd hC.1 hC.2.1 hd (k p l e R s m args below meth c ad D dA A cells slots Qf hf hC H locs ls hP hS hl)
theorem go_lsub {x y : Int64} (hd : decode cc pc = .ok (.lsub, 1))  (k : Gq Φ U cc nL own (pc + 1) al (aL (x - y) :: st) V) : Gq Φ U cc nL own pc al (aL y :: aL x :: st) V := by
  intro p l e R s m args below meth c ad D dA A cells slots Qf hf hC H locs ls hP hS hl
  exact lv_lsub hC.1 hC.2.1 hd (k p l e R s m args below meth c ad D dA A cells slots Qf hf hC H locs ls hP hS hl)
theorem go_lneg {x : Int64} (hd : decode cc pc = .ok (.lneg, 1))  (k : Gq Φ U cc nL own (pc + 1) al (aL (-x) :: st) V) : Gq Φ U cc nL own pc al (aL x :: st) V := by
  intro p l e R s m args below meth c ad D dA A cells slots Qf hf hC H locs ls hP hS hl
  exact lv_lneg hC.1 hC.2.1 hd (k p l e R s m args below meth c ad D dA A cells slots Qf hf hC H locs ls hP hS hl)
theorem go_lcmp {x y : Int64} (hd : decode cc pc = .ok (.lcmp, 1))  (k : Gq Φ U cc nL own (pc + 1) al (aI (lg_cmp x y) :: st) V) : Gq Φ U cc nL own pc al (aL y :: aL x :: st) V := by
  intro p l e R s m args below meth c ad D dA A cells slots Qf hf hC H locs ls hP hS hl
  exact W.lcmp hC.1 hC.2.1 hd (k p l e R s m args below meth c ad D dA A cells slots Qf hf hC H locs ls hP hS hl)
theorem go_i2l {x : Int32} (hd : decode cc pc = .ok (.i2l, 1))  (k : Gq Φ U cc nL own (pc + 1) al (aL x.toInt64 :: st) V) : Gq Φ U cc nL own pc al (aI x :: st) V := by
  intro p l e R s m args below meth c ad D dA A cells slots Qf hf hC H locs ls hP hS hl
  exact lv_i2l hC.1 hC.2.1 hd rfl (k p l e R s m args below meth c ad D dA A cells slots Qf hf hC H locs ls hP hS hl)
theorem go_l2i {x : Int64} (hd : decode cc pc = .ok (.l2i, 1))  (k : Gq Φ U cc nL own (pc + 1) al (aI x.toInt32 :: st) V) : Gq Φ U cc nL own pc al (aL x :: st) V := by
  intro p l e R s m args below meth c ad D dA A cells slots Qf hf hC H locs ls hP hS hl
  exact lv_l2i hC.1 hC.2.1 hd rfl (k p l e R s m args below meth c ad D dA A cells slots Qf hf hC H locs ls hP hS hl)
theorem go_i2s {x : Int32} (hd : decode cc pc = .ok (.i2s, 1))  (k : Gq Φ U cc nL own (pc + 1) al (aI x.toInt16.toInt32 :: st) V) : Gq Φ U cc nL own pc al (aI x :: st) V := by
  intro p l e R s m args below meth c ad D dA A cells slots Qf hf hC H locs ls hP hS hl
  exact lv_i2s hC.1 hC.2.1 hd rfl (k p l e R s m args below meth c ad D dA A cells slots Qf hf hC H locs ls hP hS hl)
theorem go_i2b {x : Int32} (hd : decode cc pc = .ok (.i2b, 1))  (k : Gq Φ U cc nL own (pc + 1) al (aI x.toInt8.toInt32 :: st) V) : Gq Φ U cc nL own pc al (aI x :: st) V := by
  intro p l e R s m args below meth c ad D dA A cells slots Qf hf hC H locs ls hP hS hl
  exact lv_i2b hC.1 hC.2.1 hd rfl (k p l e R s m args below meth c ad D dA A cells slots Qf hf hC H locs ls hP hS hl)
theorem go_i2c {x : Int32} (hd : decode cc pc = .ok (.i2c, 1))  (k : Gq Φ U cc nL own (pc + 1) al (aI (x.toUInt32 % 65536).toInt32 :: st) V) : Gq Φ U cc nL own pc al (aI x :: st) V := by
  intro p l e R s m args below meth c ad D dA A cells slots Qf hf hC H locs ls hP hS hl
  exact lv_i2c hC.1 hC.2.1 hd rfl (k p l e R s m args below meth c ad D dA A cells slots Qf hf hC H locs ls hP hS hl)
theorem go_dup {a : AV} (hd : decode cc pc = .ok (.dup, 1)) (ha : isW a = false) (k : Gq Φ U cc nL own (pc + 1) al (a :: a :: st) V) : Gq Φ U cc nL own pc al (a :: st) V := by
  intro p l e R s m args below meth c ad D dA A cells slots Qf hf hC H locs ls hP hS hl
  exact lv_dup hC.1 hC.2.1 hd (cat1 ad ha) (k p l e R s m args below meth c ad D dA A cells slots Qf hf hC H locs ls hP hS hl)
theorem go_pop {a : AV} (hd : decode cc pc = .ok (.pop, 1)) (ha : isW a = false) (k : Gq Φ U cc nL own (pc + 1) al (st) V) : Gq Φ U cc nL own pc al (a :: st) V := by
  intro p l e R s m args below meth c ad D dA A cells slots Qf hf hC H locs ls hP hS hl
  exact lv_pop hC.1 hC.2.1 hd (cat1 ad ha) (k p l e R s m args below meth c ad D dA A cells slots Qf hf hC H locs ls hP hS hl)
theorem go_dup_x1 {a b : AV} (hd : decode cc pc = .ok (.dup_x1, 1)) (ha : isW a = false) (hb : isW b = false) (k : Gq Φ U cc nL own (pc + 1) al (a :: b :: a :: st) V) : Gq Φ U cc nL own pc al (a :: b :: st) V := by
  intro p l e R s m args below meth c ad D dA A cells slots Qf hf hC H locs ls hP hS hl
  exact lv_dup_x1 hC.1 hC.2.1 hd (cat1 ad ha) (cat1 ad hb) (k p l e R s m args below meth c ad D dA A cells slots Qf hf hC H locs ls hP hS hl)
theorem go_dup2 {a b : AV} (hd : decode cc pc = .ok (.dup2, 1)) (ha : isW a = false) (hb : isW b = false) (k : Gq Φ U cc nL own (pc + 1) al (a :: b :: a :: b :: st) V) : Gq Φ U cc nL own pc al (a :: b :: st) V := by
  intro p l e R s m args below meth c ad D dA A cells slots Qf hf hC H locs ls hP hS hl
  exact lv_dup2_11 hC.1 hC.2.1 hd (cat1 ad ha) (cat1 ad hb) (k p l e R s m args below meth c ad D dA A cells slots Qf hf hC H locs ls hP hS hl)
theorem go_if_eq {x : Int32} {off : Int} {tgt : Nat} (hd : decode cc pc = .ok (.ifCond .eq off, 3)) (ht : (pc : Int) + off = (tgt : Int)) (kt : x = 0 → Gq Φ U cc nL own tgt al st V) (kf : ¬ x = 0 → Gq Φ U cc nL own (pc + 3) al st V) : Gq Φ U cc nL own pc al (aI x :: st) V := by
  intro p l e R s m args below meth c ad D dA A cells slots Qf hf hC H locs ls hP hS hl
  exact lv_if_eq hC.1 hC.2.1 hd ht (fun h => kt h p l e R s m args below meth c ad D dA A cells slots Qf hf hC H locs ls hP hS hl) (fun h => kf h p l e R s m args below meth c ad D dA A cells slots Qf hf hC H locs ls hP hS hl)
theorem go_icmp_eq {x y : Int32} {off : Int} {tgt : Nat} (hd : decode cc pc = .ok (.if_icmp .eq off, 3)) (ht : (pc : Int) + off = (tgt : Int)) (kt : x = y → Gq Φ U cc nL own tgt al st V) (kf : ¬ x = y → Gq Φ U cc nL own (pc + 3) al st V) : Gq Φ U cc nL own pc al (aI y :: aI x :: st) V := by
  intro p l e R s m args below meth c ad D dA A cells slots Qf hf hC H locs ls hP hS hl
  exact lv_icmp_eq hC.1 hC.2.1 hd ht (fun h => kt h p l e R s m args below meth c ad D dA A cells slots Qf hf hC H locs ls hP hS hl) (fun h => kf h p l e R s m args below meth c ad D dA A cells slots Qf hf hC H locs ls hP hS hl)
theorem go_if_ne {x : Int32} {off : Int} {tgt : Nat} (hd : decode cc pc = .ok (.ifCond .ne off, 3)) (ht : (pc : Int) + off = (tgt : Int)) (kt : ¬ x = 0 → Gq Φ U cc nL own tgt al st V) (kf : x = 0 → Gq Φ U cc nL own (pc + 3) al st V) : Gq Φ U cc nL own pc al (aI x :: st) V := by
  intro p l e R s m args below meth c ad D dA A cells slots Qf hf hC H locs ls hP hS hl
  exact lv_if_ne hC.1 hC.2.1 hd ht (fun h => kt h p l e R s m args below meth c ad D dA A cells slots Qf hf hC H locs ls hP hS hl) (fun h => kf h p l e R s m args below meth c ad D dA A cells slots Qf hf hC H locs ls hP hS hl)
theorem go_icmp_ne {x y : Int32} {off : Int} {tgt : Nat} (hd : decode cc pc = .ok (.if_icmp .ne off, 3)) (ht : (pc : Int) + off = (tgt : Int)) (kt : ¬ x = y → Gq Φ U cc nL own tgt al st V) (kf : x = y → Gq Φ U cc nL own (pc + 3) al st V) : Gq Φ U cc nL own pc al (aI y :: aI x :: st) V := by
  intro p l e R s m args below meth c ad D dA A cells slots Qf hf hC H locs ls hP hS hl
  exact lv_icmp_ne hC.1 hC.2.1 hd ht (fun h => kt h p l e R s m args below meth c ad D dA A cells slots Qf hf hC H locs ls hP hS hl) (fun h => kf h p l e R s m args below meth c ad D dA A cells slots Qf hf hC H locs ls hP hS hl)
theorem go_if_lt {x : Int32} {off : Int} {tgt : Nat} (hd : decode cc pc = .ok (.ifCond .lt off, 3)) (ht : (pc : Int) + off = (tgt : Int)) (kt : x < 0 → Gq Φ U cc nL own tgt al st V) (kf : ¬ x < 0 → Gq Φ U cc nL own (pc + 3) al st V) : Gq Φ U cc nL own pc al (aI x :: st) V := by
  intro p l e R s m args below meth c ad D dA A cells slots Qf hf hC H locs ls hP hS hl
  exact lv_if_lt hC.1 hC.2.1 hd ht (fun h => kt h p l e R s m args below meth c ad D dA A cells slots Qf hf hC H locs ls hP hS hl) (fun h => kf h p l e R s m args below meth c ad D dA A cells slots Qf hf hC H locs ls hP hS hl)
theorem go_icmp_lt {x y : Int32} {off : Int} {tgt : Nat} (hd : decode cc pc = .ok (.if_icmp .lt off, 3)) (ht : (pc : Int) + off = (tgt : Int)) (kt : x < y → Gq Φ U cc nL own tgt al st V) (kf : ¬ x < y → Gq Φ U cc nL own (pc + 3) al st V) : Gq Φ U cc nL own pc al (aI y :: aI x :: st) V := by
  intro p l e R s m args below meth c ad D dA A cells slots Qf hf hC H locs ls hP hS hl
  exact lv_icmp_lt hC.1 hC.2.1 hd ht (fun h => kt h p l e R s m args below meth c ad D dA A cells slots Qf hf hC H locs ls hP hS hl) (fun h => kf h p l e R s m args below meth c ad D dA A cells slots Qf hf hC H locs ls hP hS hl)
theorem go_if_ge {x : Int32} {off : Int} {tgt : Nat} (hd : decode cc pc = .ok (.ifCond .ge off, 3)) (ht : (pc : Int) + off = (tgt : Int)) (kt : 0 ≤ x → Gq Φ U cc nL own tgt al st V) (kf : ¬ 0 ≤ x → Gq Φ U cc nL own (pc + 3) al st V) : Gq Φ U cc nL own pc al (aI x :: st) V := by
  intro p l e R s m args below meth c ad D dA A cells slots Qf hf hC H locs ls hP hS hl
  exact lv_if_ge hC.1 hC.2.1 hd ht (fun h => kt h p l e R s m args below meth c ad D dA A cells slots Qf hf hC H locs ls hP hS hl) (fun h => kf h p l e R s m args below meth c ad D dA A cells slots Qf hf hC H locs ls hP hS hl)
theorem go_icmp_ge {x y : Int32} {off : Int} {tgt : Nat} (hd : decode cc pc = .ok (.if_icmp .ge off, 3)) (ht : (pc : Int) + off = (tgt : Int)) (kt : y ≤ x → Gq Φ U cc nL own tgt al st V) (kf : ¬ y ≤ x → Gq Φ U cc nL own (pc + 3) al st V) : Gq Φ U cc nL own pc al (aI y :: aI x :: st) V := by
  intro p l e R s m args below meth c ad D dA A cells slots Qf hf hC H locs ls hP hS hl
  exact lv_icmp_ge hC.1 hC.2.1 hd ht (fun h => kt h p l e R s m args below meth c ad D dA A cells slots Qf hf hC H locs ls hP hS hl) (fun h => kf h p l e R s m args below meth c ad D dA A cells slots Qf hf hC H locs ls hP hS hl)
theorem go_if_gt {x : Int32} {off : Int} {tgt : Nat} (hd : decode cc pc = .ok (.ifCond .gt off, 3)) (ht : (pc : Int) + off = (tgt : Int)) (kt : 0 < x → Gq Φ U cc nL own tgt al st V) (kf : ¬ 0 < x → Gq Φ U cc nL own (pc + 3) al st V) : Gq Φ U cc nL own pc al (aI x :: st) V := by
  intro p l e R s m args below meth c ad D dA A cells slots Qf hf hC H locs ls hP hS hl
  exact lv_if_gt hC.1 hC.2.1 hd ht (fun h => kt h p l e R s m args below meth c ad D dA A cells slots Qf hf hC H locs ls hP hS hl) (fun h => kf h p l e R s m args below meth c ad D dA A cells slots Qf hf hC H locs ls hP hS hl)
theorem go_icmp_gt {x y : Int32} {off : Int} {tgt : Nat} (hd : decode cc pc = .ok (.if_icmp .gt off, 3)) (ht : (pc : Int) + off = (tgt : Int)) (kt : y < x → Gq Φ U cc nL own tgt al st V) (kf : ¬ y < x → Gq Φ U cc nL own (pc + 3) al st V) : Gq Φ U cc nL own pc al (aI y :: aI x :: st) V := by
  intro p l e R s m args below meth c ad D dA A cells slots Qf hf hC H locs ls hP hS hl
  exact lv_icmp_gt hC.1 hC.2.1 hd ht (fun h => kt h p l e R s m args below meth c ad D dA A cells slots Qf hf hC H locs ls hP hS hl) (fun h => kf h p l e R s m args below meth c ad D dA A cells slots Qf hf hC H locs ls hP hS hl)
theorem go_if_le {x : Int32} {off : Int} {tgt : Nat} (hd : decode cc pc = .ok (.ifCond .le off, 3)) (ht : (pc : Int) + off = (tgt : Int)) (kt : x ≤ 0 → Gq Φ U cc nL own tgt al st V) (kf : ¬ x ≤ 0 → Gq Φ U cc nL own (pc + 3) al st V) : Gq Φ U cc nL own pc al (aI x :: st) V := by
  intro p l e R s m args below meth c ad D dA A cells slots Qf hf hC H locs ls hP hS hl
  exact lv_if_le hC.1 hC.2.1 hd ht (fun h => kt h p l e R s m args below meth c ad D dA A cells slots Qf hf hC H locs ls hP hS hl) (fun h => kf h p l e R s m args below meth c ad D dA A cells slots Qf hf hC H locs ls hP hS hl)
theorem go_icmp_le {x y : Int32} {off : Int} {tgt : Nat} (hd : decode cc pc = .ok (.if_icmp .le off, 3)) (ht : (pc : Int) + off = (tgt : Int)) (kt : x ≤ y → Gq Φ U cc nL own tgt al st V) (kf : ¬ x ≤ y → Gq Φ U cc nL own (pc + 3) al st V) : Gq Φ U cc nL own pc al (aI y :: aI x :: st) V := by
  intro p l e R s m args below meth c ad D dA A cells slots Qf hf hC H locs ls hP hS hl
  exact lv_icmp_le hC.1 hC.2.1 hd ht (fun h => kt h p l e R s m args below meth c ad D dA A cells slots Qf hf hC H locs ls hP hS hl) (fun h => kf h p l e R s m args below meth c ad D dA A cells slots Qf hf hC H locs ls hP hS hl)
theorem go_goto {off : Int} {tgt : Nat} (hd : decode cc pc = .ok (.goto off, 3)) (ht : (pc : Int) + off = (tgt : Int)) (k : Gq Φ U cc nL own tgt al st V) : Gq Φ U cc nL own pc al st V := by
  intro p l e R s m args below meth c ad D dA A cells slots Qf hf hC H locs ls hP hS hl
  exact lv_goto hC.1 hC.2.1 hd ht (k p l e R s m args below meth c ad D dA A cells slots Qf hf hC H locs ls hP hS hl)
theorem go_tabOut {dflt lo hi : Int} {offs : Array Int} {len : Nat} {x : Int32} {tgt : Nat} (hd : decode cc pc = .ok (.tableswitch dflt lo hi offs, len)) (h : x.toInt < lo ∨ hi < x.toInt) (ht : (pc : Int) + dflt = (tgt : Int)) (k : Gq Φ U cc nL own tgt al st V) : Gq Φ U cc nL own pc al (aI x :: st) V := by
  intro p l e R s m args below meth c ad D dA A cells slots Qf hf hC H locs ls hP hS hl
  exact lv_tableOut hC.1 hC.2.1 hd h ht (k p l e R s m args below meth c ad D dA A cells slots Qf hf hC H locs ls hP hS hl)
theorem go_tabIn {dflt lo hi : Int} {offs : Array Int} {len : Nat} {x : Int32} {off : Int} {tgt : Nat} (hd : decode cc pc = .ok (.tableswitch dflt lo hi offs, len)) (h1 : ¬ x.toInt < lo) (h2 : ¬ hi < x.toInt) (ho : offs[(x.toInt - lo).toNat]? = some off) (ht : (pc : Int) + off = (tgt : Int)) (k : Gq Φ U cc nL own tgt al st V) : Gq Φ U cc nL own pc al (aI x :: st) V := by
  intro p l e R s m args below meth c ad D dA A cells slots Qf hf hC H locs ls hP hS hl
  exact lv_tableIn hC.1 hC.2.1 hd h1 h2 ho ht (k p l e R s m args below meth c ad D dA A cells slots Qf hf hC H locs ls hP hS hl)
theorem go_lookup {dflt : Int} {ps : Array (Int × Int)} {len : Nat} {x : Int32} {off : Int} {tgt : Nat} (hd : decode cc pc = .ok (.lookupswitch dflt ps, len)) (hp : (ps.toList.zip (ps.toList.drop 1)).all (fun (a, next) => a.1 < next.1) = true) (ho : Op.lookupswitch.offset ps.toList dflt x.toInt = off) (ht : (pc : Int) + off = (tgt : Int)) (k : Gq Φ U cc nL own tgt al st V) : Gq Φ U cc nL own pc al (aI x :: st) V := by
  intro p l e R s m args below meth c ad D dA A cells slots Qf hf hC H locs ls hP hS hl
  exact lv_lookup hC.1 hC.2.1 hd hp ho ht (k p l e R s m args below meth c ad D dA A cells slots Qf hf hC H locs ls hP hS hl)
theorem go_sub {al1 : List (Nat × AV)} (ks : List Nat) (h : ks.filterMap (fun k => al[k]?) = al1) (k : Gq Φ U cc nL own pc al1 st V) : Gq Φ U cc nL own pc al st V := by
  intro p l e R s m args below meth c ad D dA A cells slots Qf hf hC H locs ls hP hS hl
  refine k p l e R s m args below meth c ad D dA A cells slots Qf hf hC H locs ls hP hS (lv_sub hl ks ?_)
  subst h
  unfold lv_pick cvl
  rw [List.map_filterMap]
  congr 1
  funext q
  rw [List.getElem?_map]
def FG (own : String) (idx r k : Nat) (o : Option (Nat × (Nat → Nat))) : Prop := ∃ (ci N : Nat) (C : String) (T : u_T) (ks : List (Option (Nat × (Nat → Nat)))), sh r = .inl (ci, ks) ∧ vwCl[ci]? = some (C, T, N) ∧ k < N ∧ ks[k]? = some o ∧ (∀ w ∈ u_ws C T N, w ∈ WSU) ∧ Cond.fieldLink own idx (T k).1 (T k).2.1 (T k).2.2.1 ∈ WSU
def FP (own : String) (idx r k : Nat) (ty : FieldType) : Prop := ∃ (ci N : Nat) (C : String) (T : u_T) (ks : List (Option (Nat × (Nat → Nat)))) (ty0 : Nat → FieldType), sh r = .inl (ci, ks) ∧ vwCl[ci]? = some (C, T, N) ∧ k < N ∧ ks[k]? = some none ∧ (∀ w ∈ u_ws C T N, w ∈ WSU) ∧ Cond.fieldLink own idx (T k).1 (T k).2.1 (T k).2.2.1 ∈ WSU ∧ (∀ k, k < N → parseFieldDescriptor (T k).2.2.1 = some (ty0 k)) ∧ (∀ a, a < N → ∀ b, b < N → a ≠ b → (T a).2.1 ≠ (T b).2.1) ∧ (T k).2.2.2 = false ∧ parseFieldDescriptor (T k).2.2.1 = some ty
theorem go_geto {idx r i k : Nat} {o : Option (Nat × (Nat → Nat))} (h : FG own idx r k o) (hd : decode cc pc = .ok (.getfield idx, 3)) (hm : (r, i) ∈ U) {v : AV} (hv : ∀ ad, fv1 ad (V r i) i k o = cv ad v) (kk : Gq Φ U cc nL own (pc + 3) al (v :: st) V) : Gq Φ U cc nL own pc al (aR r i :: st) V := by
  obtain ⟨ci, N, C, T, ks, h1, h2, h3, h4, h5, h6⟩ := h
  intro p l e R s m args below meth c ad D dA A cells slots Qf hf hC H locs ls hP hS hl
  obtain ⟨q, hq1, hq2⟩ := ws_at (ad := ad) (dA := dA) V hm
  have e1 : cE ad dA (V r i) r i = .inr (ci, fvs ad (V r i) i ks) := by unfold cE; rw [h1]
  rw [e1] at hq2
  exact va_get hC.1 hC.2.1 hC.2.2.2.2.1 h5 hC.2.2.2.1 hC.2.2.2.2.2.1 hP q hq2 h2 k h3 (hC.2.2.2.2.1 _ h6) (fun _ z => z) (by rw [fvs_get h4, hv]) hd (kk p l e R s m args below meth c ad D dA A cells slots Qf hf hC H locs ls hP hS hl)
theorem go_geti {idx r i k : Nat} (h : FG own idx r k none) (hd : decode cc pc = .ok (.getfield idx, 3)) (hm : (r, i) ∈ U) (kk : Gq Φ U cc nL own (pc + 3) al (aI (V r i k) :: st) V) : Gq Φ U cc nL own pc al (aR r i :: st) V := go_geto h hd hm (fun _ => rfl) kk
theorem go_getr {idx r i k r1 : Nat} {g : Nat → Nat} (h : FG own idx r k (some (r1, g))) (hd : decode cc pc = .ok (.getfield idx, 3)) (hm : (r, i) ∈ U) (kk : Gq Φ U cc nL own (pc + 3) al (aR r1 (g i) :: st) V) : Gq Φ U cc nL own pc al (aR r i :: st) V := go_geto h hd hm (fun _ => rfl) kk
theorem go_put {idx r i k : Nat} {ty : FieldType} {x : Int32} (h : FP own idx r k ty) (hd : decode cc pc = .ok (.putfield idx, 3)) (hm : (r, i) ∈ U) (hn : narrow ty (.int x) = .int x) (hfit : fits ty (.int x) = true) (kk : Gq Φ U cc nL own (pc + 3) al st (mu V r i k x)) : Gq Φ U cc nL own pc al (aI x :: aR r i :: st) V := by
  obtain ⟨ci, N, C, T, ks, ty0, h1, h2, h3, h4, h5, h6, h7, h8, h9, h10⟩ := h
  intro p l e R s m args below meth c ad D dA A cells slots Qf hf hC H locs ls hP hS hl
  obtain ⟨q, hq1, hq2⟩ := ws_at (ad := ad) (dA := dA) V hm
  have e1 : ∀ f, cE ad dA f r i = .inr (ci, fvs ad f i ks) := by intro f; unfold cE; rw [h1]
  rw [e1] at hq2
  have hD : va_D A (wsU ad dA U V) := (ws_D V hC.2.2.2.2.2.2.1).weaken (fun _ _ _ z => hC.2.2.2.2.2.2.2.1 _ z)
  refine va_put hC.1 hC.2.1 hC.2.2.2.2.1 h5 ty0 h7 h8 hC.2.2.2.1 hC.2.2.2.2.2.1 hP hD hS q hq2 h2 k h3 (hC.2.2.2.2.1 _ h6) (fun _ z => z) h9 h10 hn hfit (by rw [fvs_len]; exact (List.getElem?_eq_some_iff.mp h4).1) hd (fun H1 locs1 hP1 _ hS1 => ?_)
  rw [ws_set hC.2.2.2.2.2.2.1 hq1 (f := upd (V r i) k x) (by rw [e1, fvs_set h4]; rfl)] at hP1
  exact kk p l e R s m args below meth c ad D dA A cells slots Qf hf hC H1 locs1 ls hP1 hS1 hl
theorem go_puti {idx r i k : Nat} {x : Int32} (h : FP own idx r k .int) (hd : decode cc pc = .ok (.putfield idx, 3)) (hm : (r, i) ∈ U) (kk : Gq Φ U cc nL own (pc + 3) al st (mu V r i k x)) : Gq Φ U cc nL own pc al (aI x :: aR r i :: st) V := go_put h hd hm rfl rfl kk
theorem go_putz {idx r i k : Nat} {x : Int32} (h : FP own idx r k .boolean) (hd : decode cc pc = .ok (.putfield idx, 3)) (hm : (r, i) ∈ U) (hx : x = 0 ∨ x = 1) (kk : Gq Φ U cc nL own (pc + 3) al st (mu V r i k x)) : Gq Φ U cc nL own pc al (aI x :: aR r i :: st) V := by
  refine go_put h hd hm ?_ ?_ kk
  · rcases hx with rfl | rfl <;> rfl
  · rcases hx with rfl | rfl <;> rfl
theorem go_iald {r i n j : Nat} {x : Int32} (hs : sh r = .inr (n, .int, none)) (hn : n < 2 ^ 31) (hd : decode cc pc = .ok (.iaload, 1)) (hm : (r, i) ∈ U) (hx : x = nI j) (hj : j < n) (kk : Gq Φ U cc nL own (pc + 1) al (aI (V r i j) :: st) V) : Gq Φ U cc nL own pc al (aI x :: aR r i :: st) V := by
  intro p l e R s m args below meth c ad D dA A cells slots Qf hf hC H locs ls hP hS hl
  obtain ⟨q, hq1, hq2⟩ := ws_at (ad := ad) (dA := dA) V hm
  obtain ⟨t, ht⟩ := ty_at (dA := dA) hm hs
  have e1 : cE ad dA (V r i) r i = .inl (dA r i, n, .inl (V r i)) := by unfold cE; rw [hs]
  rw [e1] at hq2
  subst hx
  refine va_iald hC.1 hC.2.1 hC.2.2.2.2.2.1 hP q t hq2 ht (vp_in_nI hj hn) hd ?_
  rw [nI_clamp (by omega)]
  exact kk p l e R s m args below meth c ad D dA A cells slots Qf hf hC H locs ls hP hS hl
theorem go_iast {r i n j : Nat} {x v : Int32} (hs : sh r = .inr (n, .int, none)) (hn : n < 2 ^ 31) (hd : decode cc pc = .ok (.iastore, 1)) (hm : (r, i) ∈ U) (hx : x = nI j) (hj : j < n) (kk : Gq Φ U cc nL own (pc + 1) al st (mu V r i j v)) : Gq Φ U cc nL own pc al (aI v :: aI x :: aR r i :: st) V := by
  intro p l e R s m args below meth c ad D dA A cells slots Qf hf hC H locs ls hP hS hl
  obtain ⟨q, hq1, hq2⟩ := ws_at (ad := ad) (dA := dA) V hm
  obtain ⟨t, ht⟩ := ty_at (dA := dA) hm hs
  have e1 : ∀ f, cE ad dA f r i = .inl (dA r i, n, .inl f) := by intro f; unfold cE; rw [hs]
  rw [e1] at hq2
  have hD : va_D A (wsU ad dA U V) := (ws_D V hC.2.2.2.2.2.2.1).weaken (fun _ _ _ z => hC.2.2.2.2.2.2.2.1 _ z)
  subst hx
  refine va_iast hC.1 hC.2.1 hC.2.2.2.2.2.1 hP hD hS q t hq2 ht (vp_in_nI hj hn) hd (fun H1 locs1 hP1 _ hS1 => ?_)
  rw [nI_clamp (by omega)] at hP1

  rw [ws_set hC.2.2.2.2.2.2.1 hq1 (f := upd (V r i) j v) (by rw [e1])] at hP1
  exact kk p l e R s m args below meth c ad D dA A cells slots Qf hf hC H1 locs1 ls hP1 hS1 hl
theorem go_zald {r i n j : Nat} {x : Int32} (hs : sh r = .inr (n, .boolean, none)) (hn : n < 2 ^ 31) (hd : decode cc pc = .ok (.baload, 1)) (hm : (r, i) ∈ U) (hx : x = nI j) (hj : j < n) (kk : Gq Φ U cc nL own (pc + 1) al (aI (V r i j) :: st) V) : Gq Φ U cc nL own pc al (aI x :: aR r i :: st) V := by
  intro p l e R s m args below meth c ad D dA A cells slots Qf hf hC H locs ls hP hS hl
  obtain ⟨q, hq1, hq2⟩ := ws_at (ad := ad) (dA := dA) V hm
  obtain ⟨t, ht⟩ := ty_at (dA := dA) hm hs
  have e1 : cE ad dA (V r i) r i = .inl (dA r i, n, .inl (V r i)) := by unfold cE; rw [hs]
  rw [e1] at hq2
  subst hx
  refine va_zald hC.1 hC.2.1 hC.2.2.2.2.2.1 hP q t hq2 ht (vp_in_nI hj hn) hd ?_
  rw [nI_clamp (by omega)]
  exact kk p l e R s m args below meth c ad D dA A cells slots Qf hf hC H locs ls hP hS hl
theorem go_zast {r i n j : Nat} {x v : Int32} (hs : sh r = .inr (n, .boolean, none)) (hn : n < 2 ^ 31) (hd : decode cc pc = .ok (.bastore, 1)) (hm : (r, i) ∈ U) (hx : x = nI j) (hj : j < n) (hv : v = 0 ∨ v = 1) (kk : Gq Φ U cc nL own (pc + 1) al st (mu V r i j v)) : Gq Φ U cc nL own pc al (aI v :: aI x :: aR r i :: st) V := by
  intro p l e R s m args below meth c ad D dA A cells slots Qf hf hC H locs ls hP hS hl
  obtain ⟨q, hq1, hq2⟩ := ws_at (ad := ad) (dA := dA) V hm
  obtain ⟨t, ht⟩ := ty_at (dA := dA) hm hs
  have e1 : ∀ f, cE ad dA f r i = .inl (dA r i, n, .inl f) := by intro f; unfold cE; rw [hs]
  rw [e1] at hq2
  have hD : va_D A (wsU ad dA U V) := (ws_D V hC.2.2.2.2.2.2.1).weaken (fun _ _ _ z => hC.2.2.2.2.2.2.2.1 _ z)
  subst hx
  refine va_zast hC.1 hC.2.1 hC.2.2.2.2.2.1 hP hD hS q t hq2 ht (vp_in_nI hj hn) hd (fun H1 locs1 hP1 _ hS1 => ?_)
  rw [nI_clamp (by omega)] at hP1
  rw [show vp_nar .boolean v = v by rcases hv with rfl | rfl <;> rfl] at hP1
  rw [ws_set hC.2.2.2.2.2.2.1 hq1 (f := upd (V r i) j v) (by rw [e1])] at hP1
  exact kk p l e R s m args below meth c ad D dA A cells slots Qf hf hC H1 locs1 ls hP1 hS1 hl
theorem go_cald {r i n j : Nat} {x : Int32} (hs : sh r = .inr (n, .char, none)) (hn : n < 2 ^ 31) (hd : decode cc pc = .ok (.caload, 1)) (hm : (r, i) ∈ U) (hx : x = nI j) (hj : j < n) (kk : Gq Φ U cc nL own (pc + 1) al (aI (V r i j) :: st) V) : Gq Φ U cc nL own pc al (aI x :: aR r i :: st) V := by
  intro p l e R s m args below meth c ad D dA A cells slots Qf hf hC H locs ls hP hS hl
  obtain ⟨q, hq1, hq2⟩ := ws_at (ad := ad) (dA := dA) V hm
  obtain ⟨t, ht⟩ := ty_at (dA := dA) hm hs
  have e1 : cE ad dA (V r i) r i = .inl (dA r i, n, .inl (V r i)) := by unfold cE; rw [hs]
  rw [e1] at hq2
  subst hx
  refine va_cald hC.1 hC.2.1 hC.2.2.2.2.2.1 hP q t hq2 ht (vp_in_nI hj hn) hd ?_
  rw [nI_clamp (by omega)]
  exact kk p l e R s m args below meth c ad D dA A cells slots Qf hf hC H locs ls hP hS hl
theorem go_aald {r i n j r1 : Nat} {ty : FieldType} {g : Nat → Nat → Nat} {x : Int32} (hs : sh r = .inr (n, ty, some (r1, g))) (hty : ty.isReference = true) (hn : n < 2 ^ 31) (hd : decode cc pc = .ok (.aaload, 1)) (hm : (r, i) ∈ U) (hx : x = nI j) (hj : j < n) (kk : Gq Φ U cc nL own (pc + 1) al (aR r1 (g i j) :: st) V) : Gq Φ U cc nL own pc al (aI x :: aR r i :: st) V := by
  intro p l e R s m args below meth c ad D dA A cells slots Qf hf hC H locs ls hP hS hl
  obtain ⟨q, hq1, hq2⟩ := ws_at (ad := ad) (dA := dA) V hm
  obtain ⟨t, ht⟩ := ty_at (dA := dA) hm hs
  have e1 : cE ad dA (V r i) r i = .inl (dA r i, n, .inr (.inr (.inr (.inr (fun j => some (ad r1 (g i j))))))) := by unfold cE; rw [hs]
  rw [e1] at hq2
  subst hx
  have hlt : (nI j).toNatClampNeg < n := by rw [nI_clamp (by omega)]; exact hj
  refine W.aald (v := va_rf (some (ad r1 (g i (nI j).toNatClampNeg)))) (ty := ty) hC.1 hC.2.1 (hP q _ hq2) ((hC.2.2.2.2.2.1.2 t _ ht).1 n (fun j => va_rf (some (ad r1 (g i j))))) hty (fun q => by cases q) (by show ¬ (nI j < 0 ∨ (arrV _ _ _).slots.size ≤ _); rw [arrV_size]; exact vp_in_nI hj hn) (by show (arrV _ _ _).slots[_]? = _; rw [arrV_read _ _ hlt]) rfl rfl hd ?_
  rw [nI_clamp (by omega)]
  exact kk p l e R s m args below meth c ad D dA A cells slots Qf hf hC H locs ls hP hS hl
theorem go_copy {idx r0 i0 r1 i1 n0 n1 a b z : Nat} {sp dp n : Int32} (hl0 : Cond.methodLink own idx arraycopyName ∈ WSU) (hl1 : Cond.native arraycopyName ∈ WSU) (hl2 : Cond.static arraycopyName ∈ WSU) (hl3 : Cond.initialized "java/lang/System" ∈ WSU) (hR : HR Φ 0) (hs0 : sh r0 = .inr (n0, .int, none)) (hs1 : sh r1 = .inr (n1, .int, none)) (hn0 : n0 < 2 ^ 31) (hn1 : n1 < 2 ^ 31) (hd : decode cc pc = .ok (.invokestatic idx, 3)) (hm0 : (r0, i0) ∈ U) (hm1 : (r1, i1) ∈ U) (hst : st = [])
    (hsp : sp = nI a) (hdp : dp = nI b) (hz : n = nI z) (h0 : a + z ≤ n0) (h1 : b + z ≤ n1) (kk : Gq Φ U cc nL own (pc + 3) al st (ma V r1 i1 (va_cpy (V r0 i0) (V r1 i1) a b z))) : Gq Φ U cc nL own pc al (aI n :: aI dp :: aR r1 i1 :: aI sp :: aR r0 i0 :: st) V := by
  intro p l e R s m args below meth c ad D dA A cells slots Qf hf hC H locs ls hP hS hl
  obtain ⟨q0, hq1, hq2⟩ := ws_at (ad := ad) (dA := dA) V hm0
  obtain ⟨q1, hq3, hq4⟩ := ws_at (ad := ad) (dA := dA) V hm1
  obtain ⟨t0, ht0⟩ := ty_at (dA := dA) hm0 hs0
  obtain ⟨t1, ht1⟩ := ty_at (dA := dA) hm1 hs1
  have e0 : ∀ f, cE ad dA f r0 i0 = .inl (dA r0 i0, n0, .inl f) := by intro f; unfold cE; rw [hs0]
  have e1 : ∀ f, cE ad dA f r1 i1 = .inl (dA r1 i1, n1, .inl f) := by intro f; unfold cE; rw [hs1]
  rw [e0] at hq2
  rw [e1] at hq4
  have hD : va_D A (wsU ad dA U V) := (ws_D V hC.2.2.2.2.2.2.1).weaken (fun _ _ _ z => hC.2.2.2.2.2.2.2.1 _ z)
  subst hsp; subst hdp; subst hz; subst hst
  obtain ⟨hr1, hr2, hr3, hr4⟩ := hR p l e R s m args below meth c ad D dA A cells slots Qf hf
  have ca : (nI a).toNatClampNeg = a := nI_clamp (by omega)
  have cb : (nI b).toNatClampNeg = b := nI_clamp (by omega)
  have cz : (nI z).toNatClampNeg = z := nI_clamp (by omega)
  have e9 : nativeFrameWords "java/lang/System" "arraycopy" 5 ≤ 50 := by decide
  refine va_copyi (sp := nI a) (dp := nI b) (n := nI z) (rest := []) hC.1 hC.2.1 (by rw [hC.2.2.1, hl.1]) hC.2.2.2.1 (hC.2.2.2.2.1 _ hl0) (hC.2.2.2.2.1 _ hl1) (hC.2.2.2.2.1 _ hl2) (hC.2.2.2.2.1 _ hl3) hC.2.2.2.2.2.1 hP hD hS q0 q1 t0 t1 hq2 hq4 ht0 ht1 rfl (nI_pos (by omega)) (nI_pos (by omega)) (nI_pos (by omega)) (by rw [ca, cz]; exact h0) (by rw [cb, cz]; exact h1) (fun _ _ => rfl) (by omega) (by show 0 + (nativeFrameWords "java/lang/System" "arraycopy" 5 + 11) ≤ R.locals; omega) hd (fun H1 locs1 hP1 _ hS1 => ?_)
  rw [ca, cb, cz] at hP1
  rw [ws_set hC.2.2.2.2.2.2.1 hq3 (f := va_cpy (V r0 i0) (V r1 i1) a b z) (by rw [e1])] at hP1
  exact kk p l e R s m args below meth c ad D dA A cells slots Qf hf hC H1 locs1 ls hP1 hS1 hl
theorem go_mmax {idx : Nat} {x y : Int32} (hl0 : Cond.methodLink own idx Lib.Math.max.name ∈ WSU) (hl1 : Cond.static Lib.Math.max.name ∈ WSU) (hl2 : Cond.initialized "java/lang/Math" ∈ WSU) (hl3 : Cond.code Lib.Math.max.name Lib.Math.max.code 2 (some .int) ∈ WSU) (hR : HR Φ 0) (hW : (st.map fun v => if isW v then 2 else 1).sum ≤ 8) (hd : decode cc pc = .ok (.invokestatic idx, 3)) (kk : Gq Φ U cc nL own (pc + 3) al (aI (if x < y then y else x) :: st) V) : Gq Φ U cc nL own pc al (aI y :: aI x :: st) V := by
  intro p l e R s m args below meth c ad D dA A cells slots Qf hf hC H locs ls hP hS hl
  obtain ⟨hr1, hr2, hr3, hr4⟩ := hR p l e R s m args below meth c ad D dA A cells slots Qf hf
  exact va_mmax hC.1 hC.2.1 (by rw [hC.2.2.1, hl.1]) hC.2.2.2.1 (hC.2.2.2.2.1 _ hl0) (hC.2.2.2.2.1 _ hl1) (hC.2.2.2.2.1 _ hl2) (hC.2.2.2.2.1 _ hl3) (by omega) (by rw [cat_sum]; omega) hr3 hr4 hd (kk p l e R s m args below meth c ad D dA A cells slots Qf hf hC H locs ls hP hS hl)
theorem go_mmin {idx : Nat} {x y : Int32} (hl0 : Cond.methodLink own idx Lib.Math.min.name ∈ WSU) (hl1 : Cond.static Lib.Math.min.name ∈ WSU) (hl2 : Cond.initialized "java/lang/Math" ∈ WSU) (hl3 : Cond.code Lib.Math.min.name Lib.Math.min.code 2 (some .int) ∈ WSU) (hR : HR Φ 0) (hW : (st.map fun v => if isW v then 2 else 1).sum ≤ 8) (hd : decode cc pc = .ok (.invokestatic idx, 3)) (kk : Gq Φ U cc nL own (pc + 3) al (aI (if y < x then y else x) :: st) V) : Gq Φ U cc nL own pc al (aI y :: aI x :: st) V := by
  intro p l e R s m args below meth c ad D dA A cells slots Qf hf hC H locs ls hP hS hl
  obtain ⟨hr1, hr2, hr3, hr4⟩ := hR p l e R s m args below meth c ad D dA A cells slots Qf hf
  exact va_mmin hC.1 hC.2.1 (by rw [hC.2.2.1, hl.1]) hC.2.2.2.1 (hC.2.2.2.2.1 _ hl0) (hC.2.2.2.2.1 _ hl1) (hC.2.2.2.2.1 _ hl2) (hC.2.2.2.2.1 _ hl3) (by omega) (by rw [cat_sum]; omega) hr3 hr4 hd (kk p l e R s m args below meth c ad D dA A cells slots Qf hf hC H locs ls hP hS hl)
theorem go_mabs {idx : Nat} {x : Int32} (hl0 : Cond.methodLink own idx Lib.Math.abs.name ∈ WSU) (hl1 : Cond.static Lib.Math.abs.name ∈ WSU) (hl2 : Cond.initialized "java/lang/Math" ∈ WSU) (hl3 : Cond.code Lib.Math.abs.name Lib.Math.abs.code 1 (some .int) ∈ WSU) (hR : HR Φ 0) (hW : (st.map fun v => if isW v then 2 else 1).sum ≤ 8) (hd : decode cc pc = .ok (.invokestatic idx, 3)) (kk : Gq Φ U cc nL own (pc + 3) al (aI (if 0 ≤ x then x else 0 - x) :: st) V) : Gq Φ U cc nL own pc al (aI x :: st) V := by
  intro p l e R s m args below meth c ad D dA A cells slots Qf hf hC H locs ls hP hS hl
  obtain ⟨hr1, hr2, hr3, hr4⟩ := hR p l e R s m args below meth c ad D dA A cells slots Qf hf
  exact va_mabs hC.1 hC.2.1 (by rw [hC.2.2.1, hl.1]) hC.2.2.2.1 (hC.2.2.2.2.1 _ hl0) (hC.2.2.2.2.1 _ hl1) (hC.2.2.2.2.1 _ hl2) (hC.2.2.2.2.1 _ hl3) (by omega) (by rw [cat_sum]; omega) hr3 hr4 hd (kk p l e R s m args below meth c ad D dA A cells slots Qf hf hC H locs ls hP hS hl)
end ROWS
end
section
/-! ===== calls, returns ===== -/
section CALLS
variable {Φ : KT} {U : Uv} {cc : ByteArray} {nL : Nat} {own : String} {pc : Nat} {al : List (Nat × AV)} {st : List AV} {V : Mem}
theorem pb_calling {ad : Nat → Nat → Nat} {D : va_G} {dA : Nat → Nat → ClassId} {U : Uv} {V : Mem} {as : List Value} : FrameBlind (va_Pc as (PB ad D dA U V)) := by
  intro a T g mk h
  obtain ⟨h1, h2, h3, h4, h5⟩ := h
  exact ⟨h1, h2, va_K.moved (u := T) (U := T.calling g mk a) (Vm.Alike.refl T.vm) h3, h4, Fz.same (s := T) rfl h5⟩
/-- behind a call -/
theorem run_go {p : Program} {l : Launch} {e : Env} {R : Room} {s : State} {m : MethodId} {args : Array Value} {below : List Frame} {meth : Method} {c : Code} {H : Heap} {locs : List Loc} {cells slots : Nat} {Q : State → Prop} {ls : Array Slot} {rest st0 : List Value} {a : Array Value} {A0 : Nat → Prop}
    {ad : Nat → Nat → Nat} {D : va_G} {dA : Nat → Nat → ClassId} {P : Option AV → Mem → Prop}
    (hr : va_Run p l e R s m args below meth c H locs cells slots 0 0 (F0 m pc ls st0) rest (QR ad D dA U P a) (AU ad U)) (hS : va_S A0 s.heap H locs) (hA : ∀ q, AU ad U q → A0 q)
    (kk : ∀ (v : Option AV) (V' : Mem) (H1 : Heap) (locs1 : List Loc), P v V' → va_P D vwCl (wsU ad dA U V') H1 → H.size ≤ H1.size → (∀ q : Nat, q < H.size → ¬ AU ad U q → H1[q]? = H[q]?) → va_S A0 s.heap H1 locs1 → W p l e R s m args below meth c H1 locs1 cells slots Q (F0 m (pc + 3) ls ((v.map (cv ad)).toList ++ rest))) :
    W p l e R s m args below meth c H locs cells slots Q (F0 m pc ls st0) := by
  intro T hT X
  obtain ⟨v, st₀, t, T', L, h0, X', hL, e1, e2, ⟨⟨w, V', hv, hp, hb⟩, hz, hk⟩, stp⟩ := hr T hT X
  cases hv
  rw [h0] at hz hk
  obtain ⟨t2, a1, b1⟩ := kk w V' T'.heap (locs ++ L) hp (by rw [e1]; exact hb.1) (by rw [e1]; exact hz) (fun q h1 h2 => by rw [e1]; exact hk q h1 h2)
    ⟨Nat.le_trans hS.1 (by rw [e1]; exact hz), fun q h1 h2 => by rw [e1, hk q (Nat.lt_of_lt_of_le h1 hS.1) (fun z => h2 (hA q z))]; exact hS.2.1 q h1 h2, fun q hq => by
      rcases List.mem_append.mp hq with h | h
      · exact hS.2.2 q h
      · exact hA _ (hL q h)⟩ T' rfl X'
  exact ⟨t2, stp t2 a1, b1⟩
/-- what the tables say of a method that is called -/
def MV (M : MI) (n : Nat) : Prop := Cond.code M.1 M.2.1 M.2.2.1 M.2.2.2 ∈ WSU ∧ Cond.initialized M.1.cls ∈ WSU ∧ (M.1.cls ≠ "java/lang/invoke/MethodHandle" ∧ M.1.cls ≠ "java/lang/invoke/VarHandle" ∧ (parseMethodDescriptor M.1.desc).map (fun d => d.parameters.length) = some n) ∧ M.2.2.1 ≤ 40 ∧ Cond.instanceMethod M.1 ∈ WSU ∧ Cond.selects M.1.cls M.1 M.1 ∈ WSU
def MS (M : MI) (n : Nat) : Prop := Cond.code M.1 M.2.1 M.2.2.1 M.2.2.2 ∈ WSU ∧ Cond.initialized M.1.cls ∈ WSU ∧ (M.1.cls ≠ "java/lang/invoke/MethodHandle" ∧ M.1.cls ≠ "java/lang/invoke/VarHandle" ∧ (parseMethodDescriptor M.1.desc).map (fun d => d.parameters.length) = some n) ∧ M.2.2.1 ≤ 40 ∧ Cond.static M.1 ∈ WSU
theorem wsM_good {M : MI} (h : Cond.code M.1 M.2.1 M.2.2.1 M.2.2.2 ∈ WSU) : GoodIn WSU (wsM M) := wsu_good (fun w hw => by
  rcases List.mem_cons.mp hw with rfl | hw
  · exact h
  · exact hw)
/-- the callee's cells are of the caller's world, which may hold others (U1) -/
theorem go_callV0 {d idx n r i : Nat} {M : MI} {As : List AV} {stk : List AV} {P : Option AV → Mem → Prop} {ks : List (Option (Nat × (Nat → Nat)))} {ci N : Nat} {T : u_T} {U0 : Uv}
    (hM : MV M n) (hd : decode cc pc = .ok (.invokevirtual idx, 3)) (hl0 : Cond.methodLink own idx M.1 ∈ WSU) (hR : HR Φ d) (hs : sh r = .inl (ci, ks)) (hc : vwCl[ci]? = some (M.1.cls, T, N)) (hm : (r, i) ∈ U0) (hsub : ∀ x ∈ U0, x ∈ U) (hnd : ∀ (a b : Nat) (x : Nat × Nat), U0[a]? = some x → U0[b]? = some x → a = b) (hlen : As.length = n) (hstk : stk = As.reverse ++ aR r i :: st) (hW : (st.map fun v => if isW v then 2 else 1).sum ≤ 8)
    (h : Cl U0 d M (aR r i :: As) V P)
    (kk : ∀ (v : Option AV) (V' : Mem), P v V' → Gq Φ U cc nL own (pc + 3) al (v.toList ++ st) (fun r' i' => if (r', i') ∈ U0 then V' r' i' else V r' i')) : Gq Φ U cc nL own pc al stk V := by
  intro p l e R s m args below meth c ad D dA A cells slots Qf hf hC H locs ls hP hS hl
  obtain ⟨hr1, hr2, hr3, hr4⟩ := hR p l e R s m args below meth c ad D dA A cells slots Qf hf
  obtain ⟨k1, k2, k3, k4, k5, k6⟩ := hM
  have hts := hC.2.2.2.2.1
  have hI := hC.2.2.2.2.2.2.1
  have hAU : ∀ q, AU ad U0 q → AU ad U q := fun q ⟨x, hx, e⟩ => ⟨x, hsub x hx, e⟩
  have hI0 : Inj ad U0 := by
    intro a b x y hx hy hxy
    obtain ⟨a', ha'⟩ := List.getElem?_of_mem (hsub x (List.mem_of_getElem? hx))
    obtain ⟨b', hb'⟩ := List.getElem?_of_mem (hsub y (List.mem_of_getElem? hy))
    have := hI a' b' x y ha' hb' hxy
    subst this
    have exy : x = y := Option.some.inj (ha'.symm.trans hb')
    subst exy
    exact hnd a b x hx hy
  have hP0 : va_P D vwCl (wsU ad dA U0 V) H := by
    intro k q hq
    rw [wsU, List.getElem?_map] at hq
    cases hu : U0[k]? with
    | none => rw [hu] at hq; cases hq
    | some x =>
      rw [hu] at hq
      cases hq
      obtain ⟨p', -, hp'⟩ := ws_at (ad := ad) (dA := dA) V (hsub x (List.mem_of_getElem? hu))
      exact hP p' _ hp'
  have hK0 : va_K D vwCl (tyU dA U0) s := by
    refine ⟨hC.2.2.2.2.2.1.1, fun k q hq => ?_⟩
    have hq' : q ∈ tyU dA U := by
      obtain ⟨x, hx, hxq⟩ := List.mem_filterMap.mp (List.mem_of_getElem? hq)
      exact List.mem_filterMap.mpr ⟨x, hsub x hx, hxq⟩
    obtain ⟨k', hk'⟩ := List.getElem?_of_mem hq'
    exact hC.2.2.2.2.2.1.2 k' q hk'
  have hF : ∀ T : State, T.heap = H → s.WarmedH T.vm → PB ad D dA U0 V T := fun T hT hWm =>
    ⟨by rw [hT]; exact hP0, va_K.moved hWm.alike hK0, hI0, by
      rw [hT]
      exact ((hC.2.2.2.2.2.2.2.2.kept hS.2.1).narrow (fun q z => hC.2.2.2.2.2.2.2.1 q (hAU q z))).warm hWm⟩
  subst hstk
  have hst : (As.reverse ++ aR r i :: st).map (cv ad) = (As.map (cv ad)).reverse ++ .ref (ad r i) :: st.map (cv ad) := by
    rw [List.map_append, List.map_reverse]; rfl
  rw [hst]
  obtain ⟨q, hq1, hq2⟩ := ws_at (ad := ad) (dA := dA) V hm
  have e1 : cE ad dA (V r i) r i = .inr (ci, fvs ad (V r i) i ks) := by unfold cE; rw [hs]
  rw [e1] at hq2
  refine run_go (U := U0) (va_runV (As := As.map (cv ad)) (rest := st.map (cv ad)) (b := ad r i) (n := n) (C := M.1.cls) ⟨hC.1, hC.2.1, hC.2.2.1, hC.2.2.2.1, hts⟩ (h l ad D dA)
    ⟨callB_of n hts (wsM_good k1) rfl rfl rfl (hts _ k2) (hts _ hl0) k3 ⟨hr1, by show 8 + (M.2.2.1 + 11) + 64 * d ≤ R.locals; omega⟩, hts _ k5, hts _ k6⟩
    ⟨pb_calling, va_recv hK0 hP0 (ci := ci) hc hq2, fun T hT hWm => ⟨rfl, hF T hT hWm⟩⟩ rfl (by rw [List.length_map]; exact hlen) hl.1 rfl (lv_room (by rw [cat_sum]; exact hW)) hd ⟨by omega, by omega⟩) hS (fun q z => hC.2.2.2.2.2.2.2.1 q (hAU q z)) (fun v V' H1 locs1 hp hP1 hz hk hS1 => ?_)
  have hPU : va_P D vwCl (wsU ad dA U (fun r' i' => if (r', i') ∈ U0 then V' r' i' else V r' i')) H1 := by
    intro k q hq
    rw [wsU, List.getElem?_map] at hq
    cases hu : U[k]? with
    | none => rw [hu] at hq; cases hq
    | some x =>
      rw [hu] at hq
      cases hq
      by_cases hx : (x.1, x.2) ∈ U0
      · obtain ⟨p', -, hp'⟩ := ws_at (ad := ad) (dA := dA) V' hx
        have := hP1 p' _ hp'
        show va_at D vwCl (ad x.1 x.2, cE ad dA (if (x.1, x.2) ∈ U0 then V' x.1 x.2 else V x.1 x.2) x.1 x.2) H1
        rw [if_pos hx]
        exact this
      · obtain ⟨p', -, hp'⟩ := ws_at (ad := ad) (dA := dA) V (List.mem_of_getElem? hu)
        have h0 := hP p' _ hp'
        show va_at D vwCl (ad x.1 x.2, cE ad dA (if (x.1, x.2) ∈ U0 then V' x.1 x.2 else V x.1 x.2) x.1 x.2) H1
        rw [if_neg hx]
        refine h0.kept (hk _ h0.lt (fun ⟨y, hy, e9⟩ => hx ?_))
        obtain ⟨k2', hk2'⟩ := List.getElem?_of_mem (hsub y hy)
        have := hI k k2' x y hu hk2' e9
        subst this
        have exy : x = y := Option.some.inj (hu.symm.trans hk2')
        rw [exy]
        exact hy
  have := kk v V' hp p l e R s m args below meth c ad D dA A cells slots Qf hf hC H1 locs1 ls hPU hS1 hl
  have e2 : (v.toList ++ st).map (cv ad) = (v.map (cv ad)).toList ++ st.map (cv ad) := by
    rw [List.map_append]; cases v <;> rfl
  rw [e2] at this
  exact this
theorem go_callS0 {d idx n : Nat} {M : MI} {As : List AV} {stk : List AV} {P : Option AV → Mem → Prop}
    (hM : MS M n) (hd : decode cc pc = .ok (.invokestatic idx, 3)) (hl0 : Cond.methodLink own idx M.1 ∈ WSU) (hR : HR Φ d) (hlen : As.length = n) (hstk : stk = As.reverse ++ st) (hW : (st.map fun v => if isW v then 2 else 1).sum ≤ 8)
    (h : Cl U d M As V P)
    (kk : ∀ (v : Option AV) (V' : Mem), P v V' → Gq Φ U cc nL own (pc + 3) al (v.toList ++ st) V') : Gq Φ U cc nL own pc al stk V := by
  intro p l e R s m args below meth c ad D dA A cells slots Qf hf hC H locs ls hP hS hl
  obtain ⟨hr1, hr2, hr3, hr4⟩ := hR p l e R s m args below meth c ad D dA A cells slots Qf hf
  obtain ⟨k1, k2, k3, k4, k5⟩ := hM
  have hts := hC.2.2.2.2.1
  have hF : ∀ T : State, T.heap = H → s.WarmedH T.vm → PB ad D dA U V T := fun T hT hWm =>
    ⟨by rw [hT]; exact hP, va_K.moved hWm.alike hC.2.2.2.2.2.1, hC.2.2.2.2.2.2.1, by
      rw [hT]
      exact ((hC.2.2.2.2.2.2.2.2.kept hS.2.1).narrow (fun q z => hC.2.2.2.2.2.2.2.1 q z)).warm hWm⟩
  subst hstk
  have hst : (As.reverse ++ st).map (cv ad) = (As.map (cv ad)).reverse ++ st.map (cv ad) := by
    rw [List.map_append, List.map_reverse]
  rw [hst]
  refine run_go (U := U) (va_runS (As := As.map (cv ad)) (rest := st.map (cv ad)) (n := n) ⟨hC.1, hC.2.1, hC.2.2.1, hC.2.2.2.1, hts⟩ (h l ad D dA)
    ⟨callB_of n hts (wsM_good k1) rfl rfl rfl (hts _ k2) (hts _ hl0) k3 ⟨hr1, by show 8 + (M.2.2.1 + 11) + 64 * d ≤ R.locals; omega⟩, hts _ k5⟩
    ⟨pb_calling, fun T hT hWm => ⟨rfl, hF T hT hWm⟩⟩ rfl (by rw [List.length_map]; exact hlen) hl.1 rfl (lv_room (by rw [cat_sum]; exact hW)) hd ⟨by omega, by omega⟩) hS hC.2.2.2.2.2.2.2.1 (fun v V' H1 locs1 hp hP1 hz hk hS1 => ?_)
  have := kk v V' hp p l e R s m args below meth c ad D dA A cells slots Qf hf hC H1 locs1 ls hP1 hS1 hl
  have e2 : (v.toList ++ st).map (cv ad) = (v.map (cv ad)).toList ++ st.map (cv ad) := by
    rw [List.map_append]; cases v <;> rfl
  rw [e2] at this
  exact this
end CALLS
section RETS
variable {U : Uv} {cc : ByteArray} {nL : Nat} {own : String} {pc : Nat} {al : List (Nat × AV)} {V : Mem} {d : Nat} {M : MI} {P : Option AV → Mem → Prop}
theorem pb_end {p : Program} {s : State} {m : MethodId} {args : Array Value} {c : Code} {ad : Nat → Nat → Nat} {D : va_G} {dA : Nat → Nat → ClassId} {H : Heap} {locs : List Loc} (hC : Ctx p s m args c ad D dA U (AU ad U) cc nL own) (hP : va_P D vwCl (wsU ad dA U V) H) (hS : va_S (AU ad U) s.heap H locs) (t : State) (ht : t.heap = H) (hW : s.WarmedH t.vm) : PB ad D dA U V t :=
  ⟨by rw [ht]; exact hP, va_K.moved hW.alike hC.2.2.2.2.2.1, hC.2.2.2.2.2.2.1, by rw [ht]; exact (hC.2.2.2.2.2.2.2.2.kept hS.2.1).warm hW⟩
theorem go_zret {x : Int32} {ty : FieldType} (hr : M.2.2.2 = some ty) (hn : narrow ty (.int x) = .int x) (hd : decode cc pc = .ok (.ireturn, 1)) (h : P (some (aI x)) V) : Gq (Kp d M U P) U cc nL own pc al [aI x] V := by
  intro p l e R s m args below meth c ad D dA A cells slots Qf hf hC H locs ls hP hS hl
  obtain ⟨rfl, rfl, rfl, rfl, rfl, h6, h7⟩ := hf
  exact W.zret hC.1 hC.2.1 (h6.trans hr) hn (fun t ht hW => ⟨⟨some (aI x), V, rfl, h, pb_end hC hP hS t ht hW⟩, hS.F ht⟩) hS.2.2 hd h7
theorem go_iret {x : Int32} (hr : M.2.2.2 = some .int) (hd : decode cc pc = .ok (.ireturn, 1)) (h : P (some (aI x)) V) : Gq (Kp d M U P) U cc nL own pc al [aI x] V := go_zret hr rfl hd h
theorem go_bret {x : Int32} (hr : M.2.2.2 = some .boolean) (hd : decode cc pc = .ok (.ireturn, 1)) (hx : x = 0 ∨ x = 1) (h : P (some (aI x)) V) : Gq (Kp d M U P) U cc nL own pc al [aI x] V :=
  go_zret hr (by rcases hx with rfl | rfl <;> rfl) hd h
theorem go_vret (hr : M.2.2.2 = none) (hd : decode cc pc = .ok (.return_, 1)) (h : P none V) : Gq (Kp d M U P) U cc nL own pc al [] V := by
  intro p l e R s m args below meth c ad D dA A cells slots Qf hf hC H locs ls hP hS hl
  obtain ⟨rfl, rfl, rfl, rfl, rfl, h6, h7⟩ := hf
  exact W.vret hC.1 hC.2.1 (h6.trans hr) (fun t ht hW => ⟨⟨none, V, rfl, h, pb_end hC hP hS t ht hW⟩, hS.F ht⟩) hS.2.2 hd h7
theorem go_lret {x : Int64} (hr : M.2.2.2 = some .long) (hd : decode cc pc = .ok (.lreturn, 1)) (h : P (some (aL x)) V) : Gq (Kp d M U P) U cc nL own pc al [aL x] V := by
  intro p l e R s m args below meth c ad D dA A cells slots Qf hf hC H locs ls hP hS hl
  obtain ⟨rfl, rfl, rfl, rfl, rfl, h6, h7⟩ := hf
  exact W.lret hC.1 hC.2.1 (h6.trans hr) (fun t ht hW => ⟨⟨some (aL x), V, rfl, h, pb_end hC hP hS t ht hW⟩, hS.F ht⟩) hS.2.2 hd h7
theorem go_aret {r i : Nat} {n : String} (hr : M.2.2.2 = some (.object n)) (hd : decode cc pc = .ok (.areturn, 1)) (h : P (some (aR r i)) V) : Gq (Kp d M U P) U cc nL own pc al [aR r i] V := by
  intro p l e R s m args below meth c ad D dA A cells slots Qf hf hC H locs ls hP hS hl
  obtain ⟨rfl, rfl, rfl, rfl, rfl, h6, h7⟩ := hf
  exact W.aret hC.1 hC.2.1 (h6.trans hr) (Or.inl ⟨n, rfl⟩) (Or.inr ⟨_, rfl⟩) (fun t ht hW => ⟨⟨some (aR r i), V, rfl, h, pb_end hC hP hS t ht hW⟩, hS.F ht⟩) hS.2.2 hd h7
end RETS
end
