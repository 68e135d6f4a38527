section
/-- a private method of a class that the tables say can be made, by its rows of tables_1 -/
def lw_okq (q : MethodName × Nat) : Prop := (q.1.cls ≠ "java/lang/invoke/MethodHandle" ∧ q.1.cls ≠ "java/lang/invoke/VarHandle") ∧ Cond.instantiable q.1.cls q.2 ∈ tables_1 ∧ Cond.privateMethod q.1 ∈ tables_1 ∧ Cond.instanceMethod q.1 ∈ tables_1
theorem lw_p0 : lw_okq (⟨"RoofSnow", "isRoof", "(I)Z"⟩, 13) := ⟨⟨by decide +kernel, by decide +kernel⟩, List.mem_of_getElem? (i := 17) (by decide +kernel), List.mem_of_getElem? (i := 312) (by decide +kernel), List.mem_of_getElem? (i := 313) (by decide +kernel)⟩
theorem lw_p1 : lw_okq (⟨"RoofSnow", "changeRoom", "(LRoofSnow$Roof;I)I"⟩, 13) := ⟨⟨by decide +kernel, by decide +kernel⟩, List.mem_of_getElem? (i := 17) (by decide +kernel), List.mem_of_getElem? (i := 380) (by decide +kernel), List.mem_of_getElem? (i := 381) (by decide +kernel)⟩
theorem lw_p2 : lw_okq (⟨"RoofSnow$World", "letRain", "(I)V"⟩, 16) := ⟨⟨by decide +kernel, by decide +kernel⟩, List.mem_of_getElem? (i := 52) (by decide +kernel), List.mem_of_getElem? (i := 442) (by decide +kernel), List.mem_of_getElem? (i := 443) (by decide +kernel)⟩
theorem lw_p3 : lw_okq (⟨"RoofSnow$World", "letSnow", "(I)V"⟩, 16) := ⟨⟨by decide +kernel, by decide +kernel⟩, List.mem_of_getElem? (i := 52) (by decide +kernel), List.mem_of_getElem? (i := 447) (by decide +kernel), List.mem_of_getElem? (i := 448) (by decide +kernel)⟩
theorem lw_p4 : lw_okq (⟨"RoofSnow$World", "letHail", "(I)V"⟩, 16) := ⟨⟨by decide +kernel, by decide +kernel⟩, List.mem_of_getElem? (i := 52) (by decide +kernel), List.mem_of_getElem? (i := 455) (by decide +kernel), List.mem_of_getElem? (i := 456) (by decide +kernel)⟩
theorem lw_p5 : lw_okq (⟨"RoofSnow$World", "letSlide", "()I"⟩, 16) := ⟨⟨by decide +kernel, by decide +kernel⟩, List.mem_of_getElem? (i := 52) (by decide +kernel), List.mem_of_getElem? (i := 459) (by decide +kernel), List.mem_of_getElem? (i := 460) (by decide +kernel)⟩
theorem lw_p6 : lw_okq (⟨"RoofSnow$World", "letMelt", "()V"⟩, 16) := ⟨⟨by decide +kernel, by decide +kernel⟩, List.mem_of_getElem? (i := 52) (by decide +kernel), List.mem_of_getElem? (i := 465) (by decide +kernel), List.mem_of_getElem? (i := 466) (by decide +kernel)⟩
theorem lw_p7 : lw_okq (⟨"RoofSnow", "yieldOfHeat", "(III)I"⟩, 13) := ⟨⟨by decide +kernel, by decide +kernel⟩, List.mem_of_getElem? (i := 17) (by decide +kernel), List.mem_of_getElem? (i := 506) (by decide +kernel), List.mem_of_getElem? (i := 507) (by decide +kernel)⟩
theorem lw_p8 : lw_okq (⟨"RoofSnow", "thinkOfWaters", "(I)V"⟩, 13) := ⟨⟨by decide +kernel, by decide +kernel⟩, List.mem_of_getElem? (i := 17) (by decide +kernel), List.mem_of_getElem? (i := 526) (by decide +kernel), List.mem_of_getElem? (i := 527) (by decide +kernel)⟩
theorem lw_p9 : lw_okq (⟨"RoofSnow", "misfit", "(LRoofSnow$Sheet;I)I"⟩, 13) := ⟨⟨by decide +kernel, by decide +kernel⟩, List.mem_of_getElem? (i := 17) (by decide +kernel), List.mem_of_getElem? (i := 542) (by decide +kernel), List.mem_of_getElem? (i := 543) (by decide +kernel)⟩
theorem lw_p10 : lw_okq (⟨"RoofSnow", "putBytes", "(II)V"⟩, 13) := ⟨⟨by decide +kernel, by decide +kernel⟩, List.mem_of_getElem? (i := 17) (by decide +kernel), List.mem_of_getElem? (i := 566) (by decide +kernel), List.mem_of_getElem? (i := 567) (by decide +kernel)⟩
theorem lw_p11 : lw_okq (⟨"RoofSnow$Reader", "goOn", "()V"⟩, 9) := ⟨⟨by decide +kernel, by decide +kernel⟩, List.mem_of_getElem? (i := 160) (by decide +kernel), List.mem_of_getElem? (i := 582) (by decide +kernel), List.mem_of_getElem? (i := 583) (by decide +kernel)⟩
theorem lw_p12 : lw_okq (⟨"RoofSnow$Reader", "readKey", "()Z"⟩, 9) := ⟨⟨by decide +kernel, by decide +kernel⟩, List.mem_of_getElem? (i := 160) (by decide +kernel), List.mem_of_getElem? (i := 589) (by decide +kernel), List.mem_of_getElem? (i := 590) (by decide +kernel)⟩
theorem lw_p13 : lw_okq (⟨"RoofSnow$Reader", "isWord", "(Ljava/lang/String;)Z"⟩, 9) := ⟨⟨by decide +kernel, by decide +kernel⟩, List.mem_of_getElem? (i := 160) (by decide +kernel), List.mem_of_getElem? (i := 599) (by decide +kernel), List.mem_of_getElem? (i := 600) (by decide +kernel)⟩
theorem lw_p14 : lw_okq (⟨"RoofSnow$Reader", "readLevel", "(III)Z"⟩, 9) := ⟨⟨by decide +kernel, by decide +kernel⟩, List.mem_of_getElem? (i := 160) (by decide +kernel), List.mem_of_getElem? (i := 651) (by decide +kernel), List.mem_of_getElem? (i := 652) (by decide +kernel)⟩
theorem lw_p15 : lw_okq (⟨"RoofSnow$Reader", "readPiece", "(II)Z"⟩, 9) := ⟨⟨by decide +kernel, by decide +kernel⟩, List.mem_of_getElem? (i := 160) (by decide +kernel), List.mem_of_getElem? (i := 655) (by decide +kernel), List.mem_of_getElem? (i := 656) (by decide +kernel)⟩
def lw_privs_1 : List (MethodName × Nat) := [(⟨"RoofSnow", "isRoof", "(I)Z"⟩, 13), (⟨"RoofSnow", "changeRoom", "(LRoofSnow$Roof;I)I"⟩, 13), (⟨"RoofSnow$World", "letRain", "(I)V"⟩, 16), (⟨"RoofSnow$World", "letSnow", "(I)V"⟩, 16), (⟨"RoofSnow$World", "letHail", "(I)V"⟩, 16), (⟨"RoofSnow$World", "letSlide", "()I"⟩, 16), (⟨"RoofSnow$World", "letMelt", "()V"⟩, 16), (⟨"RoofSnow", "yieldOfHeat", "(III)I"⟩, 13), (⟨"RoofSnow", "thinkOfWaters", "(I)V"⟩, 13), (⟨"RoofSnow", "misfit", "(LRoofSnow$Sheet;I)I"⟩, 13), (⟨"RoofSnow", "putBytes", "(II)V"⟩, 13), (⟨"RoofSnow$Reader", "goOn", "()V"⟩, 9), (⟨"RoofSnow$Reader", "readKey", "()Z"⟩, 9), (⟨"RoofSnow$Reader", "isWord", "(Ljava/lang/String;)Z"⟩, 9), (⟨"RoofSnow$Reader", "readLevel", "(III)Z"⟩, 9), (⟨"RoofSnow$Reader", "readPiece", "(II)Z"⟩, 9)]
theorem lw_r1 : ∀ q ∈ lw_privs_1, lw_okq q := List.forall_mem_cons.mpr ⟨lw_p0, List.forall_mem_cons.mpr ⟨lw_p1, List.forall_mem_cons.mpr ⟨lw_p2, List.forall_mem_cons.mpr ⟨lw_p3, List.forall_mem_cons.mpr ⟨lw_p4, List.forall_mem_cons.mpr ⟨lw_p5, List.forall_mem_cons.mpr ⟨lw_p6, List.forall_mem_cons.mpr ⟨lw_p7, List.forall_mem_cons.mpr ⟨lw_p8, List.forall_mem_cons.mpr ⟨lw_p9, List.forall_mem_cons.mpr ⟨lw_p10, List.forall_mem_cons.mpr ⟨lw_p11, List.forall_mem_cons.mpr ⟨lw_p12, List.forall_mem_cons.mpr ⟨lw_p13, List.forall_mem_cons.mpr ⟨lw_p14, List.forall_mem_cons.mpr ⟨lw_p15, fun _ h => absurd h List.not_mem_nil⟩⟩⟩⟩⟩⟩⟩⟩⟩⟩⟩⟩⟩⟩⟩⟩
theorem lw_p16 : lw_okq (⟨"RoofSnow$Reader", "numberRead", "()I"⟩, 9) := ⟨⟨by decide +kernel, by decide +kernel⟩, List.mem_of_getElem? (i := 160) (by decide +kernel), List.mem_of_getElem? (i := 659) (by decide +kernel), List.mem_of_getElem? (i := 660) (by decide +kernel)⟩
theorem lw_p17 : lw_okq (⟨"RoofSnow$Reader", "addOperand", "(I)Z"⟩, 9) := ⟨⟨by decide +kernel, by decide +kernel⟩, List.mem_of_getElem? (i := 160) (by decide +kernel), List.mem_of_getElem? (i := 663) (by decide +kernel), List.mem_of_getElem? (i := 664) (by decide +kernel)⟩
theorem lw_p18 : lw_okq (⟨"RoofSnow$Reader", "addStep", "(I)Z"⟩, 9) := ⟨⟨by decide +kernel, by decide +kernel⟩, List.mem_of_getElem? (i := 160) (by decide +kernel), List.mem_of_getElem? (i := 667) (by decide +kernel), List.mem_of_getElem? (i := 668) (by decide +kernel)⟩
theorem lw_p19 : lw_okq (⟨"RoofSnow$Reader", "nameRead", "()I"⟩, 9) := ⟨⟨by decide +kernel, by decide +kernel⟩, List.mem_of_getElem? (i := 160) (by decide +kernel), List.mem_of_getElem? (i := 671) (by decide +kernel), List.mem_of_getElem? (i := 672) (by decide +kernel)⟩
theorem lw_p20 : lw_okq (⟨"RoofSnow$Reader", "isSign", "(I)Z"⟩, 9) := ⟨⟨by decide +kernel, by decide +kernel⟩, List.mem_of_getElem? (i := 160) (by decide +kernel), List.mem_of_getElem? (i := 736) (by decide +kernel), List.mem_of_getElem? (i := 737) (by decide +kernel)⟩
theorem lw_p21 : lw_okq (⟨"RoofSnow$Reader", "isSignOf", "(I)Z"⟩, 9) := ⟨⟨by decide +kernel, by decide +kernel⟩, List.mem_of_getElem? (i := 160) (by decide +kernel), List.mem_of_getElem? (i := 740) (by decide +kernel), List.mem_of_getElem? (i := 741) (by decide +kernel)⟩
theorem lw_p22 : lw_okq (⟨"RoofSnow", "isWaiting", "(III)Z"⟩, 13) := ⟨⟨by decide +kernel, by decide +kernel⟩, List.mem_of_getElem? (i := 17) (by decide +kernel), List.mem_of_getElem? (i := 843) (by decide +kernel), List.mem_of_getElem? (i := 844) (by decide +kernel)⟩
theorem lw_p23 : lw_okq (⟨"RoofSnowModel", "comes", "(II)I"⟩, 33) := ⟨⟨by decide +kernel, by decide +kernel⟩, List.mem_of_getElem? (i := 860) (by decide +kernel), List.mem_of_getElem? (i := 977) (by decide +kernel), List.mem_of_getElem? (i := 978) (by decide +kernel)⟩
theorem lw_p24 : lw_okq (⟨"RoofSnowModel", "put", "(III)V"⟩, 33) := ⟨⟨by decide +kernel, by decide +kernel⟩, List.mem_of_getElem? (i := 860) (by decide +kernel), List.mem_of_getElem? (i := 981) (by decide +kernel), List.mem_of_getElem? (i := 982) (by decide +kernel)⟩
theorem lw_p25 : lw_okq (⟨"RoofSnowModel", "isRoof", "(I)Z"⟩, 33) := ⟨⟨by decide +kernel, by decide +kernel⟩, List.mem_of_getElem? (i := 860) (by decide +kernel), List.mem_of_getElem? (i := 989) (by decide +kernel), List.mem_of_getElem? (i := 990) (by decide +kernel)⟩
theorem lw_p26 : lw_okq (⟨"RoofSnowModel", "of", "(II)I"⟩, 33) := ⟨⟨by decide +kernel, by decide +kernel⟩, List.mem_of_getElem? (i := 860) (by decide +kernel), List.mem_of_getElem? (i := 993) (by decide +kernel), List.mem_of_getElem? (i := 994) (by decide +kernel)⟩
theorem lw_p27 : lw_okq (⟨"RoofSnowModel", "warmthOf", "(I)I"⟩, 33) := ⟨⟨by decide +kernel, by decide +kernel⟩, List.mem_of_getElem? (i := 860) (by decide +kernel), List.mem_of_getElem? (i := 997) (by decide +kernel), List.mem_of_getElem? (i := 998) (by decide +kernel)⟩
theorem lw_p28 : lw_okq (⟨"RoofSnowModel", "hourOfDay", "()I"⟩, 33) := ⟨⟨by decide +kernel, by decide +kernel⟩, List.mem_of_getElem? (i := 860) (by decide +kernel), List.mem_of_getElem? (i := 1001) (by decide +kernel), List.mem_of_getElem? (i := 1002) (by decide +kernel)⟩
theorem lw_p29 : lw_okq (⟨"RoofSnowModel", "meltsOf", "(I)I"⟩, 33) := ⟨⟨by decide +kernel, by decide +kernel⟩, List.mem_of_getElem? (i := 860) (by decide +kernel), List.mem_of_getElem? (i := 1005) (by decide +kernel), List.mem_of_getElem? (i := 1006) (by decide +kernel)⟩
theorem lw_p30 : lw_okq (⟨"RoofSnowModel", "counts", "(I)I"⟩, 33) := ⟨⟨by decide +kernel, by decide +kernel⟩, List.mem_of_getElem? (i := 860) (by decide +kernel), List.mem_of_getElem? (i := 1009) (by decide +kernel), List.mem_of_getElem? (i := 1010) (by decide +kernel)⟩
theorem lw_p31 : lw_okq (⟨"RoofSnowModel", "worksOut", "(I)I"⟩, 33) := ⟨⟨by decide +kernel, by decide +kernel⟩, List.mem_of_getElem? (i := 860) (by decide +kernel), List.mem_of_getElem? (i := 1016) (by decide +kernel), List.mem_of_getElem? (i := 1017) (by decide +kernel)⟩
def lw_privs_2 : List (MethodName × Nat) := [(⟨"RoofSnow$Reader", "numberRead", "()I"⟩, 9), (⟨"RoofSnow$Reader", "addOperand", "(I)Z"⟩, 9), (⟨"RoofSnow$Reader", "addStep", "(I)Z"⟩, 9), (⟨"RoofSnow$Reader", "nameRead", "()I"⟩, 9), (⟨"RoofSnow$Reader", "isSign", "(I)Z"⟩, 9), (⟨"RoofSnow$Reader", "isSignOf", "(I)Z"⟩, 9), (⟨"RoofSnow", "isWaiting", "(III)Z"⟩, 13), (⟨"RoofSnowModel", "comes", "(II)I"⟩, 33), (⟨"RoofSnowModel", "put", "(III)V"⟩, 33), (⟨"RoofSnowModel", "isRoof", "(I)Z"⟩, 33), (⟨"RoofSnowModel", "of", "(II)I"⟩, 33), (⟨"RoofSnowModel", "warmthOf", "(I)I"⟩, 33), (⟨"RoofSnowModel", "hourOfDay", "()I"⟩, 33), (⟨"RoofSnowModel", "meltsOf", "(I)I"⟩, 33), (⟨"RoofSnowModel", "counts", "(I)I"⟩, 33), (⟨"RoofSnowModel", "worksOut", "(I)I"⟩, 33)]
theorem lw_r2 : ∀ q ∈ lw_privs_2, lw_okq q := List.forall_mem_cons.mpr ⟨lw_p16, List.forall_mem_cons.mpr ⟨lw_p17, List.forall_mem_cons.mpr ⟨lw_p18, List.forall_mem_cons.mpr ⟨lw_p19, List.forall_mem_cons.mpr ⟨lw_p20, List.forall_mem_cons.mpr ⟨lw_p21, List.forall_mem_cons.mpr ⟨lw_p22, List.forall_mem_cons.mpr ⟨lw_p23, List.forall_mem_cons.mpr ⟨lw_p24, List.forall_mem_cons.mpr ⟨lw_p25, List.forall_mem_cons.mpr ⟨lw_p26, List.forall_mem_cons.mpr ⟨lw_p27, List.forall_mem_cons.mpr ⟨lw_p28, List.forall_mem_cons.mpr ⟨lw_p29, List.forall_mem_cons.mpr ⟨lw_p30, List.forall_mem_cons.mpr ⟨lw_p31, fun _ h => absurd h List.not_mem_nil⟩⟩⟩⟩⟩⟩⟩⟩⟩⟩⟩⟩⟩⟩⟩⟩
theorem lw_p32 : lw_okq (⟨"RoofSnowModel", "bearsOf", "(I)I"⟩, 33) := ⟨⟨by decide +kernel, by decide +kernel⟩, List.mem_of_getElem? (i := 860) (by decide +kernel), List.mem_of_getElem? (i := 1023) (by decide +kernel), List.mem_of_getElem? (i := 1024) (by decide +kernel)⟩
theorem lw_p33 : lw_okq (⟨"RoofSnowModel", "owns", "(I)Z"⟩, 33) := ⟨⟨by decide +kernel, by decide +kernel⟩, List.mem_of_getElem? (i := 860) (by decide +kernel), List.mem_of_getElem? (i := 1027) (by decide +kernel), List.mem_of_getElem? (i := 1028) (by decide +kernel)⟩
theorem lw_p34 : lw_okq (⟨"RoofSnowModel", "worthOf", "(I)I"⟩, 33) := ⟨⟨by decide +kernel, by decide +kernel⟩, List.mem_of_getElem? (i := 860) (by decide +kernel), List.mem_of_getElem? (i := 1031) (by decide +kernel), List.mem_of_getElem? (i := 1032) (by decide +kernel)⟩
theorem lw_p35 : lw_okq (⟨"RoofSnowModel", "becomes", "(II)I"⟩, 33) := ⟨⟨by decide +kernel, by decide +kernel⟩, List.mem_of_getElem? (i := 860) (by decide +kernel), List.mem_of_getElem? (i := 1047) (by decide +kernel), List.mem_of_getElem? (i := 1048) (by decide +kernel)⟩
theorem lw_p36 : lw_okq (⟨"RoofSnowModel", "rains", "(II)V"⟩, 33) := ⟨⟨by decide +kernel, by decide +kernel⟩, List.mem_of_getElem? (i := 860) (by decide +kernel), List.mem_of_getElem? (i := 1055) (by decide +kernel), List.mem_of_getElem? (i := 1056) (by decide +kernel)⟩
theorem lw_p37 : lw_okq (⟨"RoofSnowModel", "draw", "()I"⟩, 33) := ⟨⟨by decide +kernel, by decide +kernel⟩, List.mem_of_getElem? (i := 860) (by decide +kernel), List.mem_of_getElem? (i := 1071) (by decide +kernel), List.mem_of_getElem? (i := 1072) (by decide +kernel)⟩
theorem lw_p38 : lw_okq (⟨"RoofSnowModel", "hours", "(I)I"⟩, 33) := ⟨⟨by decide +kernel, by decide +kernel⟩, List.mem_of_getElem? (i := 860) (by decide +kernel), List.mem_of_getElem? (i := 1096) (by decide +kernel), List.mem_of_getElem? (i := 1097) (by decide +kernel)⟩
theorem lw_p39 : lw_okq (⟨"RoofSnowModel", "hour", "()I"⟩, 33) := ⟨⟨by decide +kernel, by decide +kernel⟩, List.mem_of_getElem? (i := 860) (by decide +kernel), List.mem_of_getElem? (i := 1100) (by decide +kernel), List.mem_of_getElem? (i := 1101) (by decide +kernel)⟩
theorem lw_p40 : lw_okq (⟨"RoofSnowModel", "falls", "(II)V"⟩, 33) := ⟨⟨by decide +kernel, by decide +kernel⟩, List.mem_of_getElem? (i := 860) (by decide +kernel), List.mem_of_getElem? (i := 1104) (by decide +kernel), List.mem_of_getElem? (i := 1105) (by decide +kernel)⟩
theorem lw_p41 : lw_okq (⟨"RoofSnowModel", "snows", "(II)V"⟩, 33) := ⟨⟨by decide +kernel, by decide +kernel⟩, List.mem_of_getElem? (i := 860) (by decide +kernel), List.mem_of_getElem? (i := 1108) (by decide +kernel), List.mem_of_getElem? (i := 1109) (by decide +kernel)⟩
theorem lw_p42 : lw_okq (⟨"RoofSnowModel", "slides", "()I"⟩, 33) := ⟨⟨by decide +kernel, by decide +kernel⟩, List.mem_of_getElem? (i := 860) (by decide +kernel), List.mem_of_getElem? (i := 1112) (by decide +kernel), List.mem_of_getElem? (i := 1113) (by decide +kernel)⟩
theorem lw_p43 : lw_okq (⟨"RoofSnowModel", "sumOf", "(I)I"⟩, 33) := ⟨⟨by decide +kernel, by decide +kernel⟩, List.mem_of_getElem? (i := 860) (by decide +kernel), List.mem_of_getElem? (i := 1120) (by decide +kernel), List.mem_of_getElem? (i := 1121) (by decide +kernel)⟩
theorem lw_p44 : lw_okq (⟨"RoofSnowModel", "thinks", "()V"⟩, 33) := ⟨⟨by decide +kernel, by decide +kernel⟩, List.mem_of_getElem? (i := 860) (by decide +kernel), List.mem_of_getElem? (i := 1128) (by decide +kernel), List.mem_of_getElem? (i := 1129) (by decide +kernel)⟩
theorem lw_p45 : lw_okq (⟨"RoofSnowModel", "behindIt", "(II)I"⟩, 33) := ⟨⟨by decide +kernel, by decide +kernel⟩, List.mem_of_getElem? (i := 860) (by decide +kernel), List.mem_of_getElem? (i := 1135) (by decide +kernel), List.mem_of_getElem? (i := 1136) (by decide +kernel)⟩
theorem lw_p46 : lw_okq (⟨"RoofSnowModel", "putsBack", "()V"⟩, 33) := ⟨⟨by decide +kernel, by decide +kernel⟩, List.mem_of_getElem? (i := 860) (by decide +kernel), List.mem_of_getElem? (i := 1139) (by decide +kernel), List.mem_of_getElem? (i := 1140) (by decide +kernel)⟩
theorem lw_p47 : lw_okq (⟨"RoofSnowModel", "offBy", "(II)J"⟩, 33) := ⟨⟨by decide +kernel, by decide +kernel⟩, List.mem_of_getElem? (i := 860) (by decide +kernel), List.mem_of_getElem? (i := 1172) (by decide +kernel), List.mem_of_getElem? (i := 1173) (by decide +kernel)⟩
def lw_privs_3 : List (MethodName × Nat) := [(⟨"RoofSnowModel", "bearsOf", "(I)I"⟩, 33), (⟨"RoofSnowModel", "owns", "(I)Z"⟩, 33), (⟨"RoofSnowModel", "worthOf", "(I)I"⟩, 33), (⟨"RoofSnowModel", "becomes", "(II)I"⟩, 33), (⟨"RoofSnowModel", "rains", "(II)V"⟩, 33), (⟨"RoofSnowModel", "draw", "()I"⟩, 33), (⟨"RoofSnowModel", "hours", "(I)I"⟩, 33), (⟨"RoofSnowModel", "hour", "()I"⟩, 33), (⟨"RoofSnowModel", "falls", "(II)V"⟩, 33), (⟨"RoofSnowModel", "snows", "(II)V"⟩, 33), (⟨"RoofSnowModel", "slides", "()I"⟩, 33), (⟨"RoofSnowModel", "sumOf", "(I)I"⟩, 33), (⟨"RoofSnowModel", "thinks", "()V"⟩, 33), (⟨"RoofSnowModel", "behindIt", "(II)I"⟩, 33), (⟨"RoofSnowModel", "putsBack", "()V"⟩, 33), (⟨"RoofSnowModel", "offBy", "(II)J"⟩, 33)]
theorem lw_r3 : ∀ q ∈ lw_privs_3, lw_okq q := List.forall_mem_cons.mpr ⟨lw_p32, List.forall_mem_cons.mpr ⟨lw_p33, List.forall_mem_cons.mpr ⟨lw_p34, List.forall_mem_cons.mpr ⟨lw_p35, List.forall_mem_cons.mpr ⟨lw_p36, List.forall_mem_cons.mpr ⟨lw_p37, List.forall_mem_cons.mpr ⟨lw_p38, List.forall_mem_cons.mpr ⟨lw_p39, List.forall_mem_cons.mpr ⟨lw_p40, List.forall_mem_cons.mpr ⟨lw_p41, List.forall_mem_cons.mpr ⟨lw_p42, List.forall_mem_cons.mpr ⟨lw_p43, List.forall_mem_cons.mpr ⟨lw_p44, List.forall_mem_cons.mpr ⟨lw_p45, List.forall_mem_cons.mpr ⟨lw_p46, List.forall_mem_cons.mpr ⟨lw_p47, fun _ h => absurd h List.not_mem_nil⟩⟩⟩⟩⟩⟩⟩⟩⟩⟩⟩⟩⟩⟩⟩⟩
theorem lw_p48 : lw_okq (⟨"RoofSnowModel", "go", "()V"⟩, 33) := ⟨⟨by decide +kernel, by decide +kernel⟩, List.mem_of_getElem? (i := 860) (by decide +kernel), List.mem_of_getElem? (i := 1192) (by decide +kernel), List.mem_of_getElem? (i := 1193) (by decide +kernel)⟩
theorem lw_p49 : lw_okq (⟨"RoofSnowModel", "isLetter", "(I)Z"⟩, 33) := ⟨⟨by decide +kernel, by decide +kernel⟩, List.mem_of_getElem? (i := 860) (by decide +kernel), List.mem_of_getElem? (i := 1196) (by decide +kernel), List.mem_of_getElem? (i := 1197) (by decide +kernel)⟩
theorem lw_p50 : lw_okq (⟨"RoofSnowModel", "isFigure", "(I)Z"⟩, 33) := ⟨⟨by decide +kernel, by decide +kernel⟩, List.mem_of_getElem? (i := 860) (by decide +kernel), List.mem_of_getElem? (i := 1200) (by decide +kernel), List.mem_of_getElem? (i := 1201) (by decide +kernel)⟩
theorem lw_p51 : lw_okq (⟨"RoofSnowModel", "takesKey", "()Z"⟩, 33) := ⟨⟨by decide +kernel, by decide +kernel⟩, List.mem_of_getElem? (i := 860) (by decide +kernel), List.mem_of_getElem? (i := 1204) (by decide +kernel), List.mem_of_getElem? (i := 1205) (by decide +kernel)⟩
theorem lw_p52 : lw_okq (⟨"RoofSnowModel", "takesE", "()Z"⟩, 33) := ⟨⟨by decide +kernel, by decide +kernel⟩, List.mem_of_getElem? (i := 860) (by decide +kernel), List.mem_of_getElem? (i := 1208) (by decide +kernel), List.mem_of_getElem? (i := 1209) (by decide +kernel)⟩
theorem lw_p53 : lw_okq (⟨"RoofSnowModel", "takesPart", "()Z"⟩, 33) := ⟨⟨by decide +kernel, by decide +kernel⟩, List.mem_of_getElem? (i := 860) (by decide +kernel), List.mem_of_getElem? (i := 1212) (by decide +kernel), List.mem_of_getElem? (i := 1213) (by decide +kernel)⟩
theorem lw_p54 : lw_okq (⟨"RoofSnowModel", "nameOf", "(I)I"⟩, 33) := ⟨⟨by decide +kernel, by decide +kernel⟩, List.mem_of_getElem? (i := 860) (by decide +kernel), List.mem_of_getElem? (i := 1216) (by decide +kernel), List.mem_of_getElem? (i := 1217) (by decide +kernel)⟩
theorem lw_p55 : lw_okq (⟨"RoofSnowModel", "settle", "(I)V"⟩, 33) := ⟨⟨by decide +kernel, by decide +kernel⟩, List.mem_of_getElem? (i := 860) (by decide +kernel), List.mem_of_getElem? (i := 1220) (by decide +kernel), List.mem_of_getElem? (i := 1221) (by decide +kernel)⟩
theorem lw_p56 : lw_okq (⟨"RoofSnowModel", "notsOpen", "()I"⟩, 33) := ⟨⟨by decide +kernel, by decide +kernel⟩, List.mem_of_getElem? (i := 860) (by decide +kernel), List.mem_of_getElem? (i := 1227) (by decide +kernel), List.mem_of_getElem? (i := 1228) (by decide +kernel)⟩
theorem lw_p57 : lw_okq (⟨"RoofSnowModel", "signHere", "()I"⟩, 33) := ⟨⟨by decide +kernel, by decide +kernel⟩, List.mem_of_getElem? (i := 860) (by decide +kernel), List.mem_of_getElem? (i := 1231) (by decide +kernel), List.mem_of_getElem? (i := 1232) (by decide +kernel)⟩
def lw_privs_4 : List (MethodName × Nat) := [(⟨"RoofSnowModel", "go", "()V"⟩, 33), (⟨"RoofSnowModel", "isLetter", "(I)Z"⟩, 33), (⟨"RoofSnowModel", "isFigure", "(I)Z"⟩, 33), (⟨"RoofSnowModel", "takesKey", "()Z"⟩, 33), (⟨"RoofSnowModel", "takesE", "()Z"⟩, 33), (⟨"RoofSnowModel", "takesPart", "()Z"⟩, 33), (⟨"RoofSnowModel", "nameOf", "(I)I"⟩, 33), (⟨"RoofSnowModel", "settle", "(I)V"⟩, 33), (⟨"RoofSnowModel", "notsOpen", "()I"⟩, 33), (⟨"RoofSnowModel", "signHere", "()I"⟩, 33)]
theorem lw_r4 : ∀ q ∈ lw_privs_4, lw_okq q := List.forall_mem_cons.mpr ⟨lw_p48, List.forall_mem_cons.mpr ⟨lw_p49, List.forall_mem_cons.mpr ⟨lw_p50, List.forall_mem_cons.mpr ⟨lw_p51, List.forall_mem_cons.mpr ⟨lw_p52, List.forall_mem_cons.mpr ⟨lw_p53, List.forall_mem_cons.mpr ⟨lw_p54, List.forall_mem_cons.mpr ⟨lw_p55, List.forall_mem_cons.mpr ⟨lw_p56, List.forall_mem_cons.mpr ⟨lw_p57, fun _ h => absurd h List.not_mem_nil⟩⟩⟩⟩⟩⟩⟩⟩⟩⟩
def lw_privs : List (MethodName × Nat) := lw_privs_1 ++ (lw_privs_2 ++ (lw_privs_3 ++ (lw_privs_4)))
def lw_tbl : List Cond := k2_sels lw_privs ++ tables_1
theorem lw_privs_ok : ∀ q ∈ lw_privs, lw_okq q := by
  show ∀ q ∈ lw_privs_1 ++ (lw_privs_2 ++ (lw_privs_3 ++ (lw_privs_4))), lw_okq q
  exact List.forall_mem_append.mpr ⟨lw_r1, List.forall_mem_append.mpr ⟨lw_r2, List.forall_mem_append.mpr ⟨lw_r3, lw_r4⟩⟩⟩
end
section
def RX0 : String := "RoofSnow$Laws"
def TX0 : u_T := fun k => match k with
  | 0 => ("RoofSnow$Laws", "keys", "[I", true)
  | 1 => ("RoofSnow$Laws", "operands", "[I", true)
  | 2 => ("RoofSnow$Laws", "lengths", "[I", true)
  | 3 => ("RoofSnow$Laws", "steps", "[[I", true)
  | _ => ("RoofSnow$Laws", "stack", "[I", true)
def tyX0 : Nat → FieldType := fun k => match k with
  | 0 => .array .int
  | 1 => .array .int
  | 2 => .array .int
  | 3 => .array (.array .int)
  | _ => .array .int
abbrev wsX00 : List Cond := u_ws RX0 TX0 5
theorem nmX0 : ∀ a, a < 5 → ∀ b, b < 5 → a ≠ b → (TX0 a).2.1 ≠ (TX0 b).2.1 := by decide +kernel
theorem tyX0_ok : ∀ k, k < 5 → parseFieldDescriptor (TX0 k).2.2.1 = some (tyX0 k) := by decide +kernel
abbrev cX0_init : ByteArray := prog_2_method_1_code
def yX0_init : MethodName := ⟨RX0, "<init>", "()V"⟩
abbrev cX0_put : ByteArray := prog_2_method_2_code
def yX0_put : MethodName := ⟨RX0, "put", "(ILRoofSnow$Reader;)V"⟩
abbrev cX0_give : ByteArray := prog_2_method_3_code
def yX0_give : MethodName := ⟨RX0, "give", "(IIII)I"⟩
abbrev cX0_joined : ByteArray := prog_2_method_4_code
def yX0_joined : MethodName := ⟨RX0, "joined", "(III)I"⟩
def RX1 : String := "RoofSnow$Reader"
def TX1 : u_T := fun k => match k with
  | 0 => ("RoofSnow$Reader", "bytes", "[I", true)
  | 1 => ("RoofSnow$Reader", "steps", "[I", true)
  | 2 => ("RoofSnow$Reader", "length", "I", false)
  | 3 => ("RoofSnow$Reader", "key", "I", false)
  | 4 => ("RoofSnow$Reader", "operands", "I", false)
  | 5 => ("RoofSnow$Reader", "start", "I", false)
  | 6 => ("RoofSnow$Reader", "end", "I", false)
  | 7 => ("RoofSnow$Reader", "sort", "I", false)
  | _ => ("RoofSnow$Reader", "bytesLength", "I", false)
def tyX1 : Nat → FieldType := fun k => match k with
  | 0 => .array .int
  | 1 => .array .int
  | 2 => .int
  | 3 => .int
  | 4 => .int
  | 5 => .int
  | 6 => .int
  | 7 => .int
  | _ => .int
abbrev wsX10 : List Cond := u_ws RX1 TX1 9
theorem nmX1 : ∀ a, a < 9 → ∀ b, b < 9 → a ≠ b → (TX1 a).2.1 ≠ (TX1 b).2.1 := by decide +kernel
theorem tyX1_ok : ∀ k, k < 9 → parseFieldDescriptor (TX1 k).2.2.1 = some (tyX1 k) := by decide +kernel
abbrev cX1_init : ByteArray := prog_3_method_1_code
def yX1_init : MethodName := ⟨RX1, "<init>", "([I)V"⟩
abbrev cX1_readText : ByteArray := prog_3_method_2_code
def yX1_readText : MethodName := ⟨RX1, "readText", "(I)Z"⟩
abbrev cX1_readKey : ByteArray := prog_3_method_3_code
def yX1_readKey : MethodName := ⟨RX1, "readKey", "()Z"⟩
abbrev cX1_readLevel : ByteArray := prog_3_method_4_code
def yX1_readLevel : MethodName := ⟨RX1, "readLevel", "(III)Z"⟩
abbrev cX1_readPiece : ByteArray := prog_3_method_5_code
def yX1_readPiece : MethodName := ⟨RX1, "readPiece", "(II)Z"⟩
abbrev cX1_addOperand : ByteArray := prog_3_method_6_code
def yX1_addOperand : MethodName := ⟨RX1, "addOperand", "(I)Z"⟩
abbrev cX1_addStep : ByteArray := prog_3_method_7_code
def yX1_addStep : MethodName := ⟨RX1, "addStep", "(I)Z"⟩
abbrev cX1_isSign : ByteArray := prog_3_method_8_code
def yX1_isSign : MethodName := ⟨RX1, "isSign", "(I)Z"⟩
abbrev cX1_isSignOf : ByteArray := prog_3_method_9_code
def yX1_isSignOf : MethodName := ⟨RX1, "isSignOf", "(I)Z"⟩
abbrev cX1_numberRead : ByteArray := prog_3_method_10_code
def yX1_numberRead : MethodName := ⟨RX1, "numberRead", "()I"⟩
abbrev cX1_nameRead : ByteArray := prog_3_method_11_code
def yX1_nameRead : MethodName := ⟨RX1, "nameRead", "()I"⟩
abbrev cX1_isWord : ByteArray := prog_3_method_12_code
def yX1_isWord : MethodName := ⟨RX1, "isWord", "(Ljava/lang/String;)Z"⟩
abbrev cX1_keyWord : ByteArray := prog_3_method_13_code
def yX1_keyWord : MethodName := ⟨RX1, "keyWord", "(I)Ljava/lang/String;"⟩
abbrev cX1_namesOf : ByteArray := prog_3_method_14_code
def yX1_namesOf : MethodName := ⟨RX1, "namesOf", "(I)Ljava/lang/String;"⟩
abbrev cX1_goOn : ByteArray := prog_3_method_15_code
def yX1_goOn : MethodName := ⟨RX1, "goOn", "()V"⟩
abbrev cX1_sortOf : ByteArray := prog_3_method_16_code
def yX1_sortOf : MethodName := ⟨RX1, "sortOf", "(I)I"⟩
def RX2 : String := "RoofSnow$Roof"
def TX2 : u_T := fun k => match k with
  | 0 => ("RoofSnow$Roof", "kind", "I", false)
  | 1 => ("RoofSnow$Roof", "size", "I", false)
  | 2 => ("RoofSnow$Roof", "heat", "I", false)
  | 3 => ("RoofSnow$Roof", "room", "I", false)
  | 4 => ("RoofSnow$Roof", "water", "I", false)
  | _ => ("RoofSnow$Roof", "snow", "I", false)
def tyX2 : Nat → FieldType := fun k => match k with
  | 0 => .int
  | 1 => .int
  | 2 => .int
  | 3 => .int
  | 4 => .int
  | _ => .int
abbrev wsX20 : List Cond := u_ws RX2 TX2 6
theorem nmX2 : ∀ a, a < 6 → ∀ b, b < 6 → a ≠ b → (TX2 a).2.1 ≠ (TX2 b).2.1 := by decide +kernel
theorem tyX2_ok : ∀ k, k < 6 → parseFieldDescriptor (TX2 k).2.2.1 = some (tyX2 k) := by decide +kernel
abbrev cX2_init : ByteArray := prog_4_method_1_code
def yX2_init : MethodName := ⟨RX2, "<init>", "()V"⟩
abbrev cX2_begin : ByteArray := prog_4_method_2_code
def yX2_begin : MethodName := ⟨RX2, "begin", "(II)V"⟩
abbrev cX2_become : ByteArray := prog_4_method_3_code
def yX2_become : MethodName := ⟨RX2, "become", "(LRoofSnow$Roof;)V"⟩
abbrev cX2_isOf : ByteArray := prog_4_method_4_code
def yX2_isOf : MethodName := ⟨RX2, "isOf", "(I)Z"⟩
abbrev cX2_bears : ByteArray := prog_4_method_5_code
def yX2_bears : MethodName := ⟨RX2, "bears", "()I"⟩
abbrev cX2_worth : ByteArray := prog_4_method_6_code
def yX2_worth : MethodName := ⟨RX2, "worth", "()I"⟩
abbrev cX2_takeWater : ByteArray := prog_4_method_7_code
def yX2_takeWater : MethodName := ⟨RX2, "takeWater", "(I)I"⟩
abbrev cX2_takeSnow : ByteArray := prog_4_method_8_code
def yX2_takeSnow : MethodName := ⟨RX2, "takeSnow", "(I)I"⟩
def RX3 : String := "RoofSnow$Sheet"
def TX3 : u_T := fun k => match k with
  | 0 => ("RoofSnow$Sheet", "sort", "I", false)
  | 1 => ("RoofSnow$Sheet", "places", "I", false)
  | _ => ("RoofSnow$Sheet", "row", "[I", true)
def tyX3 : Nat → FieldType := fun k => match k with
  | 0 => .int
  | 1 => .int
  | _ => .array .int
abbrev wsX30 : List Cond := u_ws RX3 TX3 3
theorem nmX3 : ∀ a, a < 3 → ∀ b, b < 3 → a ≠ b → (TX3 a).2.1 ≠ (TX3 b).2.1 := by decide +kernel
theorem tyX3_ok : ∀ k, k < 3 → parseFieldDescriptor (TX3 k).2.2.1 = some (tyX3 k) := by decide +kernel
abbrev cX3_init : ByteArray := prog_5_method_1_code
def yX3_init : MethodName := ⟨RX3, "<init>", "()V"⟩
abbrev cX3_isMissing : ByteArray := prog_5_method_2_code
def yX3_isMissing : MethodName := ⟨RX3, "isMissing", "()Z"⟩
abbrev cX3_lose : ByteArray := prog_5_method_3_code
def yX3_lose : MethodName := ⟨RX3, "lose", "()V"⟩
abbrev cX3_begin : ByteArray := prog_5_method_4_code
def yX3_begin : MethodName := ⟨RX3, "begin", "(II)V"⟩
abbrev cX3_become : ByteArray := prog_5_method_5_code
def yX3_become : MethodName := ⟨RX3, "become", "(LRoofSnow$Sheet;)V"⟩
abbrev cX3_hasPlace : ByteArray := prog_5_method_6_code
def yX3_hasPlace : MethodName := ⟨RX3, "hasPlace", "(I)Z"⟩
abbrev cX3_hasPlaces : ByteArray := prog_5_method_7_code
def yX3_hasPlaces : MethodName := ⟨RX3, "hasPlaces", "(II)Z"⟩
abbrev cX3_isNumber : ByteArray := prog_5_method_8_code
def yX3_isNumber : MethodName := ⟨RX3, "isNumber", "(I)Z"⟩
abbrev cX3_write : ByteArray := prog_5_method_9_code
def yX3_write : MethodName := ⟨RX3, "write", "(II)I"⟩
def RX4 : String := "RoofSnow$Slot"
def TX4 : u_T := fun k => match k with
  | 0 => ("RoofSnow$Slot", "thing", "I", false)
  | 1 => ("RoofSnow$Slot", "number", "I", false)
  | 2 => ("RoofSnow$Slot", "roofHeld", "LRoofSnow$Roof;", true)
  | _ => ("RoofSnow$Slot", "sheetHeld", "LRoofSnow$Sheet;", true)
def tyX4 : Nat → FieldType := fun k => match k with
  | 0 => .int
  | 1 => .int
  | 2 => .object "RoofSnow$Roof"
  | _ => .object "RoofSnow$Sheet"
abbrev wsX40 : List Cond := u_ws RX4 TX4 4
theorem nmX4 : ∀ a, a < 4 → ∀ b, b < 4 → a ≠ b → (TX4 a).2.1 ≠ (TX4 b).2.1 := by decide +kernel
theorem tyX4_ok : ∀ k, k < 4 → parseFieldDescriptor (TX4 k).2.2.1 = some (tyX4 k) := by decide +kernel
abbrev cX4_init : ByteArray := prog_6_method_1_code
def yX4_init : MethodName := ⟨RX4, "<init>", "()V"⟩
abbrev cX4_findingFor : ByteArray := prog_6_method_2_code
def yX4_findingFor : MethodName := ⟨RX4, "findingFor", "(I)I"⟩
def RX5 : String := "RoofSnow$World"
def TX5 : u_T := fun k => match k with
  | 0 => ("RoofSnow$World", "laws", "LRoofSnow$Laws;", true)
  | 1 => ("RoofSnow$World", "roofs", "[LRoofSnow$Roof;", true)
  | 2 => ("RoofSnow$World", "air", "[I", true)
  | 3 => ("RoofSnow$World", "fall", "[I", true)
  | 4 => ("RoofSnow$World", "counting", "[I", true)
  | 5 => ("RoofSnow$World", "texts", "I", false)
  | 6 => ("RoofSnow$World", "many", "I", false)
  | 7 => ("RoofSnow$World", "dusk", "I", false)
  | 8 => ("RoofSnow$World", "hour", "I", false)
  | 9 => ("RoofSnow$World", "z", "I", false)
  | 10 => ("RoofSnow$World", "streetSnow", "I", false)
  | 11 => ("RoofSnow$World", "streetWater", "I", false)
  | 12 => ("RoofSnow$World", "nobodys", "I", false)
  | 13 => ("RoofSnow$World", "lost", "I", false)
  | 14 => ("RoofSnow$World", "stolen", "I", false)
  | _ => ("RoofSnow$World", "used", "I", false)
def tyX5 : Nat → FieldType := fun k => match k with
  | 0 => .object "RoofSnow$Laws"
  | 1 => .array (.object "RoofSnow$Roof")
  | 2 => .array .int
  | 3 => .array .int
  | 4 => .array .int
  | 5 => .int
  | 6 => .int
  | 7 => .int
  | 8 => .int
  | 9 => .int
  | 10 => .int
  | 11 => .int
  | 12 => .int
  | 13 => .int
  | 14 => .int
  | _ => .int
abbrev wsX50 : List Cond := u_ws RX5 TX5 16
theorem nmX5 : ∀ a, a < 16 → ∀ b, b < 16 → a ≠ b → (TX5 a).2.1 ≠ (TX5 b).2.1 := by decide +kernel
theorem tyX5_ok : ∀ k, k < 16 → parseFieldDescriptor (TX5 k).2.2.1 = some (tyX5 k) := by decide +kernel
abbrev cX5_init : ByteArray := prog_7_method_1_code
def yX5_init : MethodName := ⟨RX5, "<init>", "(LRoofSnow$Laws;)V"⟩
abbrev cX5_become : ByteArray := prog_7_method_2_code
def yX5_become : MethodName := ⟨RX5, "become", "(LRoofSnow$World;)V"⟩
abbrev cX5_addRoof : ByteArray := prog_7_method_3_code
def yX5_addRoof : MethodName := ⟨RX5, "addRoof", "(II)I"⟩
abbrev cX5_draw : ByteArray := prog_7_method_4_code
def yX5_draw : MethodName := ⟨RX5, "draw", "()I"⟩
abbrev cX5_hourOfDay : ByteArray := prog_7_method_5_code
def yX5_hourOfDay : MethodName := ⟨RX5, "hourOfDay", "()I"⟩
abbrev cX5_hoursLeft : ByteArray := prog_7_method_6_code
def yX5_hoursLeft : MethodName := ⟨RX5, "hoursLeft", "()I"⟩
abbrev cX5_warmth : ByteArray := prog_7_method_7_code
def yX5_warmth : MethodName := ⟨RX5, "warmth", "(LRoofSnow$Roof;)I"⟩
abbrev cX5_melts : ByteArray := prog_7_method_8_code
def yX5_melts : MethodName := ⟨RX5, "melts", "(LRoofSnow$Roof;)I"⟩
abbrev cX5_owns : ByteArray := prog_7_method_9_code
def yX5_owns : MethodName := ⟨RX5, "owns", "(LRoofSnow$Roof;)Z"⟩
abbrev cX5_fineFor : ByteArray := prog_7_method_10_code
def yX5_fineFor : MethodName := ⟨RX5, "fineFor", "(LRoofSnow$Roof;)I"⟩
abbrev cX5_passHours : ByteArray := prog_7_method_11_code
def yX5_passHours : MethodName := ⟨RX5, "passHours", "(I)I"⟩
abbrev cX5_passHour : ByteArray := prog_7_method_12_code
def yX5_passHour : MethodName := ⟨RX5, "passHour", "()I"⟩
abbrev cX5_letRain : ByteArray := prog_7_method_13_code
def yX5_letRain : MethodName := ⟨RX5, "letRain", "(I)V"⟩
abbrev cX5_letSnow : ByteArray := prog_7_method_14_code
def yX5_letSnow : MethodName := ⟨RX5, "letSnow", "(I)V"⟩
abbrev cX5_letHail : ByteArray := prog_7_method_15_code
def yX5_letHail : MethodName := ⟨RX5, "letHail", "(I)V"⟩
abbrev cX5_letSlide : ByteArray := prog_7_method_16_code
def yX5_letSlide : MethodName := ⟨RX5, "letSlide", "()I"⟩
abbrev cX5_letMelt : ByteArray := prog_7_method_17_code
def yX5_letMelt : MethodName := ⟨RX5, "letMelt", "()V"⟩
abbrev cX5_roofsWater : ByteArray := prog_7_method_18_code
def yX5_roofsWater : MethodName := ⟨RX5, "roofsWater", "()I"⟩
abbrev cX5_roofsSnow : ByteArray := prog_7_method_19_code
def yX5_roofsSnow : MethodName := ⟨RX5, "roofsSnow", "()I"⟩
abbrev cX5_allKilos : ByteArray := prog_7_method_20_code
def yX5_allKilos : MethodName := ⟨RX5, "allKilos", "()I"⟩
def RX6 : String := "RoofSnow"
def TX6 : u_T := fun k => match k with
  | 0 => ("RoofSnow", "laws", "LRoofSnow$Laws;", true)
  | 1 => ("RoofSnow", "now", "LRoofSnow$World;", true)
  | 2 => ("RoofSnow", "image", "LRoofSnow$World;", true)
  | 3 => ("RoofSnow", "thought", "LRoofSnow$World;", true)
  | 4 => ("RoofSnow", "imageKept", "Z", false)
  | 5 => ("RoofSnow", "tape", "[I", true)
  | 6 => ("RoofSnow", "tapeLength", "I", false)
  | 7 => ("RoofSnow", "reader", "LRoofSnow$Reader;", true)
  | 8 => ("RoofSnow", "sheets", "[LRoofSnow$Sheet;", true)
  | 9 => ("RoofSnow", "slots", "[LRoofSnow$Slot;", true)
  | 10 => ("RoofSnow", "waiting", "[I", true)
  | 11 => ("RoofSnow", "waits", "I", false)
  | _ => ("RoofSnow", "waters", "[I", true)
def tyX6 : Nat → FieldType := fun k => match k with
  | 0 => .object "RoofSnow$Laws"
  | 1 => .object "RoofSnow$World"
  | 2 => .object "RoofSnow$World"
  | 3 => .object "RoofSnow$World"
  | 4 => .boolean
  | 5 => .array .int
  | 6 => .int
  | 7 => .object "RoofSnow$Reader"
  | 8 => .array (.object "RoofSnow$Sheet")
  | 9 => .array (.object "RoofSnow$Slot")
  | 10 => .array .int
  | 11 => .int
  | _ => .array .int
abbrev wsX60 : List Cond := u_ws RX6 TX6 13
theorem nmX6 : ∀ a, a < 13 → ∀ b, b < 13 → a ≠ b → (TX6 a).2.1 ≠ (TX6 b).2.1 := by decide +kernel
theorem tyX6_ok : ∀ k, k < 13 → parseFieldDescriptor (TX6 k).2.2.1 = some (tyX6 k) := by decide +kernel
abbrev cX6_init : ByteArray := prog_1_method_1_code
def yX6_init : MethodName := ⟨RX6, "<init>", "()V"⟩
abbrev cX6_roof : ByteArray := prog_1_method_2_code
def yX6_roof : MethodName := ⟨RX6, "roof", "(II)I"⟩
abbrev cX6_told : ByteArray := prog_1_method_3_code
def yX6_told : MethodName := ⟨RX6, "told", "(II)I"⟩
abbrev cX6_as : ByteArray := prog_1_method_4_code
def yX6_as : MethodName := ⟨RX6, "as", "(II)I"⟩
abbrev cX6_turns : ByteArray := prog_1_method_5_code
def yX6_turns : MethodName := ⟨RX6, "turns", "(II)I"⟩
abbrev cX6_set : ByteArray := prog_1_method_6_code
def yX6_set : MethodName := ⟨RX6, "set", "(III)I"⟩
abbrev cX6_sweep : ByteArray := prog_1_method_7_code
def yX6_sweep : MethodName := ⟨RX6, "sweep", "(II)I"⟩
abbrev cX6_use : ByteArray := prog_1_method_8_code
def yX6_use : MethodName := ⟨RX6, "use", "(II)I"⟩
abbrev cX6_deal : ByteArray := prog_1_method_9_code
def yX6_deal : MethodName := ⟨RX6, "deal", "(I)I"⟩
abbrev cX6_seed : ByteArray := prog_1_method_10_code
def yX6_seed : MethodName := ⟨RX6, "seed", "(I)I"⟩
abbrev cX6_weather : ByteArray := prog_1_method_11_code
def yX6_weather : MethodName := ⟨RX6, "weather", "(III)I"⟩
abbrev cX6_sky : ByteArray := prog_1_method_12_code
def yX6_sky : MethodName := ⟨RX6, "sky", "()I"⟩
abbrev cX6_sunset : ByteArray := prog_1_method_13_code
def yX6_sunset : MethodName := ⟨RX6, "sunset", "(I)I"⟩
abbrev cX6_run : ByteArray := prog_1_method_14_code
def yX6_run : MethodName := ⟨RX6, "run", "(I)I"⟩
abbrev cX6_kilos : ByteArray := prog_1_method_15_code
def yX6_kilos : MethodName := ⟨RX6, "kilos", "(I)I"⟩
abbrev cX6_behind : ByteArray := prog_1_method_16_code
def yX6_behind : MethodName := ⟨RX6, "behind", "(III)I"⟩
abbrev cX6_best : ByteArray := prog_1_method_17_code
def yX6_best : MethodName := ⟨RX6, "best", "(III)I"⟩
abbrev cX6_leastRoom : ByteArray := prog_1_method_18_code
def yX6_leastRoom : MethodName := ⟨RX6, "leastRoom", "(II)I"⟩
abbrev cX6_slide : ByteArray := prog_1_method_19_code
def yX6_slide : MethodName := ⟨RX6, "slide", "()I"⟩
abbrev cX6_gains : ByteArray := prog_1_method_20_code
def yX6_gains : MethodName := ⟨RX6, "gains", "(II)I"⟩
abbrev cX6_explained : ByteArray := prog_1_method_21_code
def yX6_explained : MethodName := ⟨RX6, "explained", "(II)I"⟩
abbrev cX6_fine : ByteArray := prog_1_method_22_code
def yX6_fine : MethodName := ⟨RX6, "fine", "(I)I"⟩
abbrev cX6_feed : ByteArray := prog_1_method_23_code
def yX6_feed : MethodName := ⟨RX6, "feed", "(III)I"⟩
abbrev cX6_trim : ByteArray := prog_1_method_24_code
def yX6_trim : MethodName := ⟨RX6, "trim", "(I)I"⟩
abbrev cX6_text : ByteArray := prog_1_method_25_code
def yX6_text : MethodName := ⟨RX6, "text", "()I"⟩
abbrev cX6_textTold : ByteArray := prog_1_method_26_code
def yX6_textTold : MethodName := ⟨RX6, "textTold", "(II)I"⟩
abbrev cX6_why : ByteArray := prog_1_method_27_code
def yX6_why : MethodName := ⟨RX6, "why", "(I)I"⟩
abbrev cX6_sheet : ByteArray := prog_1_method_28_code
def yX6_sheet : MethodName := ⟨RX6, "sheet", "(III)I"⟩
abbrev cX6_mark : ByteArray := prog_1_method_29_code
def yX6_mark : MethodName := ⟨RX6, "mark", "(III)I"⟩
abbrev cX6_pour : ByteArray := prog_1_method_30_code
def yX6_pour : MethodName := ⟨RX6, "pour", "(I)I"⟩
abbrev cX6_reads : ByteArray := prog_1_method_31_code
def yX6_reads : MethodName := ⟨RX6, "reads", "(I)I"⟩
abbrev cX6_copy : ByteArray := prog_1_method_32_code
def yX6_copy : MethodName := ⟨RX6, "copy", "(IIIII)I"⟩
abbrev cX6_lay : ByteArray := prog_1_method_33_code
def yX6_lay : MethodName := ⟨RX6, "lay", "(III)I"⟩
abbrev cX6_ask : ByteArray := prog_1_method_34_code
def yX6_ask : MethodName := ⟨RX6, "ask", "(II)I"⟩
abbrev cX6_item : ByteArray := prog_1_method_35_code
def yX6_item : MethodName := ⟨RX6, "item", "(II)I"⟩
abbrev cX6_rest : ByteArray := prog_1_method_36_code
def yX6_rest : MethodName := ⟨RX6, "rest", "(II)I"⟩
abbrev cX6_tell : ByteArray := prog_1_method_37_code
def yX6_tell : MethodName := ⟨RX6, "tell", "(I)I"⟩
abbrev cX6_check : ByteArray := prog_1_method_38_code
def yX6_check : MethodName := ⟨RX6, "check", "(I)I"⟩
abbrev cX6_keep : ByteArray := prog_1_method_39_code
def yX6_keep : MethodName := ⟨RX6, "keep", "()I"⟩
abbrev cX6_back : ByteArray := prog_1_method_40_code
def yX6_back : MethodName := ⟨RX6, "back", "()I"⟩
abbrev cX6_count : ByteArray := prog_1_method_41_code
def yX6_count : MethodName := ⟨RX6, "count", "(I)I"⟩
abbrev cX6_isWithin : ByteArray := prog_1_method_42_code
def yX6_isWithin : MethodName := ⟨RX6, "isWithin", "(III)Z"⟩
abbrev cX6_isKind : ByteArray := prog_1_method_43_code
def yX6_isKind : MethodName := ⟨RX6, "isKind", "(I)Z"⟩
abbrev cX6_isRoof : ByteArray := prog_1_method_44_code
def yX6_isRoof : MethodName := ⟨RX6, "isRoof", "(I)Z"⟩
abbrev cX6_isSheet : ByteArray := prog_1_method_45_code
def yX6_isSheet : MethodName := ⟨RX6, "isSheet", "(I)Z"⟩
abbrev cX6_isSlot : ByteArray := prog_1_method_46_code
def yX6_isSlot : MethodName := ⟨RX6, "isSlot", "(I)Z"⟩
abbrev cX6_changeSize : ByteArray := prog_1_method_47_code
def yX6_changeSize : MethodName := ⟨RX6, "changeSize", "(LRoofSnow$Roof;I)I"⟩
abbrev cX6_changeHeat : ByteArray := prog_1_method_48_code
def yX6_changeHeat : MethodName := ⟨RX6, "changeHeat", "(LRoofSnow$Roof;I)I"⟩
abbrev cX6_changeRoom : ByteArray := prog_1_method_49_code
def yX6_changeRoom : MethodName := ⟨RX6, "changeRoom", "(LRoofSnow$Roof;I)I"⟩
abbrev cX6_change : ByteArray := prog_1_method_50_code
def yX6_change : MethodName := ⟨RX6, "change", "([III)I"⟩
abbrev cX6_yieldOfHeat : ByteArray := prog_1_method_51_code
def yX6_yieldOfHeat : MethodName := ⟨RX6, "yieldOfHeat", "(III)I"⟩
abbrev cX6_thinkOfWaters : ByteArray := prog_1_method_52_code
def yX6_thinkOfWaters : MethodName := ⟨RX6, "thinkOfWaters", "(I)V"⟩
abbrev cX6_misfit : ByteArray := prog_1_method_53_code
def yX6_misfit : MethodName := ⟨RX6, "misfit", "(LRoofSnow$Sheet;I)I"⟩
abbrev cX6_putBytes : ByteArray := prog_1_method_54_code
def yX6_putBytes : MethodName := ⟨RX6, "putBytes", "(II)V"⟩
abbrev cX6_isWaiting : ByteArray := prog_1_method_55_code
def yX6_isWaiting : MethodName := ⟨RX6, "isWaiting", "(III)Z"⟩
def RX7 : String := "RoofSnowModel"
def TX7 : u_T := fun k => match k with
  | 0 => ("RoofSnowModel", "now", "[I", true)
  | 1 => ("RoofSnowModel", "image", "[I", true)
  | 2 => ("RoofSnowModel", "aside", "[I", true)
  | 3 => ("RoofSnowModel", "hasImage", "Z", false)
  | 4 => ("RoofSnowModel", "before", "[I", true)
  | 5 => ("RoofSnowModel", "tape", "[I", true)
  | 6 => ("RoofSnowModel", "taped", "I", false)
  | 7 => ("RoofSnowModel", "next", "I", false)
  | 8 => ("RoofSnowModel", "from", "I", false)
  | 9 => ("RoofSnowModel", "token", "I", false)
  | 10 => ("RoofSnowModel", "value", "I", false)
  | 11 => ("RoofSnowModel", "ended", "I", false)
  | 12 => ("RoofSnowModel", "key", "I", false)
  | 13 => ("RoofSnowModel", "keys", "[C", true)
  | 14 => ("RoofSnowModel", "keyAt", "[I", true)
  | 15 => ("RoofSnowModel", "code", "[I", true)
  | 16 => ("RoofSnowModel", "codes", "I", false)
  | 17 => ("RoofSnowModel", "atoms", "I", false)
  | 18 => ("RoofSnowModel", "waits", "[I", true)
  | 19 => ("RoofSnowModel", "held", "I", false)
  | 20 => ("RoofSnowModel", "tested", "[Z", true)
  | 21 => ("RoofSnowModel", "stack", "[I", true)
  | 22 => ("RoofSnowModel", "facts", "[I", true)
  | 23 => ("RoofSnowModel", "sorts", "[I", true)
  | 24 => ("RoofSnowModel", "sizes", "[I", true)
  | 25 => ("RoofSnowModel", "cells", "[I", true)
  | 26 => ("RoofSnowModel", "holds", "[I", true)
  | 27 => ("RoofSnowModel", "holdsA", "[I", true)
  | 28 => ("RoofSnowModel", "holdsB", "[I", true)
  | 29 => ("RoofSnowModel", "heldCells", "[I", true)
  | 30 => ("RoofSnowModel", "moved", "[I", true)
  | 31 => ("RoofSnowModel", "tells", "[I", true)
  | _ => ("RoofSnowModel", "waiting", "I", false)
def tyX7 : Nat → FieldType := fun k => match k with
  | 0 => .array .int
  | 1 => .array .int
  | 2 => .array .int
  | 3 => .boolean
  | 4 => .array .int
  | 5 => .array .int
  | 6 => .int
  | 7 => .int
  | 8 => .int
  | 9 => .int
  | 10 => .int
  | 11 => .int
  | 12 => .int
  | 13 => .array .char
  | 14 => .array .int
  | 15 => .array .int
  | 16 => .int
  | 17 => .int
  | 18 => .array .int
  | 19 => .int
  | 20 => .array .boolean
  | 21 => .array .int
  | 22 => .array .int
  | 23 => .array .int
  | 24 => .array .int
  | 25 => .array .int
  | 26 => .array .int
  | 27 => .array .int
  | 28 => .array .int
  | 29 => .array .int
  | 30 => .array .int
  | 31 => .array .int
  | _ => .int
abbrev wsX70 : List Cond := u_ws RX7 TX7 33
theorem nmX7 : ∀ a, a < 33 → ∀ b, b < 33 → a ≠ b → (TX7 a).2.1 ≠ (TX7 b).2.1 := by decide +kernel
theorem tyX7_ok : ∀ k, k < 33 → parseFieldDescriptor (TX7 k).2.2.1 = some (tyX7 k) := by decide +kernel
abbrev cX7_init : ByteArray := prog_9_method_1_code
def yX7_init : MethodName := ⟨RX7, "<init>", "()V"⟩
abbrev cX7_in : ByteArray := prog_9_method_2_code
def yX7_in : MethodName := ⟨RX7, "in", "(III)Z"⟩
abbrev cX7_within : ByteArray := prog_9_method_3_code
def yX7_within : MethodName := ⟨RX7, "within", "(III)I"⟩
abbrev cX7_copyAll : ByteArray := prog_9_method_4_code
def yX7_copyAll : MethodName := ⟨RX7, "copyAll", "([I[I)V"⟩
abbrev cX7_told0 : ByteArray := prog_9_method_5_code
def yX7_told0 : MethodName := ⟨RX7, "told0", "(I)I"⟩
abbrev cX7_isRoof : ByteArray := prog_9_method_6_code
def yX7_isRoof : MethodName := ⟨RX7, "isRoof", "(I)Z"⟩
abbrev cX7_of : ByteArray := prog_9_method_7_code
def yX7_of : MethodName := ⟨RX7, "of", "(II)I"⟩
abbrev cX7_put : ByteArray := prog_9_method_8_code
def yX7_put : MethodName := ⟨RX7, "put", "(III)V"⟩
abbrev cX7_becomes : ByteArray := prog_9_method_9_code
def yX7_becomes : MethodName := ⟨RX7, "becomes", "(II)I"⟩
abbrev cX7_hourOfDay : ByteArray := prog_9_method_10_code
def yX7_hourOfDay : MethodName := ⟨RX7, "hourOfDay", "()I"⟩
abbrev cX7_comes : ByteArray := prog_9_method_11_code
def yX7_comes : MethodName := ⟨RX7, "comes", "(II)I"⟩
abbrev cX7_roof : ByteArray := prog_9_method_12_code
def yX7_roof : MethodName := ⟨RX7, "roof", "(II)I"⟩
abbrev cX7_warmthOf : ByteArray := prog_9_method_13_code
def yX7_warmthOf : MethodName := ⟨RX7, "warmthOf", "(I)I"⟩
abbrev cX7_meltsOf : ByteArray := prog_9_method_14_code
def yX7_meltsOf : MethodName := ⟨RX7, "meltsOf", "(I)I"⟩
abbrev cX7_bearsOf : ByteArray := prog_9_method_15_code
def yX7_bearsOf : MethodName := ⟨RX7, "bearsOf", "(I)I"⟩
abbrev cX7_owns : ByteArray := prog_9_method_16_code
def yX7_owns : MethodName := ⟨RX7, "owns", "(I)Z"⟩
abbrev cX7_worthOf : ByteArray := prog_9_method_17_code
def yX7_worthOf : MethodName := ⟨RX7, "worthOf", "(I)I"⟩
abbrev cX7_told : ByteArray := prog_9_method_18_code
def yX7_told : MethodName := ⟨RX7, "told", "(II)I"⟩
abbrev cX7_isUnder : ByteArray := prog_9_method_19_code
def yX7_isUnder : MethodName := ⟨RX7, "isUnder", "(II)Z"⟩
abbrev cX7_as : ByteArray := prog_9_method_20_code
def yX7_as : MethodName := ⟨RX7, "as", "(II)I"⟩
abbrev cX7_turns : ByteArray := prog_9_method_21_code
def yX7_turns : MethodName := ⟨RX7, "turns", "(II)I"⟩
abbrev cX7_rains : ByteArray := prog_9_method_22_code
def yX7_rains : MethodName := ⟨RX7, "rains", "(II)V"⟩
abbrev cX7_set : ByteArray := prog_9_method_23_code
def yX7_set : MethodName := ⟨RX7, "set", "(III)I"⟩
abbrev cX7_sweep : ByteArray := prog_9_method_24_code
def yX7_sweep : MethodName := ⟨RX7, "sweep", "(II)I"⟩
abbrev cX7_use : ByteArray := prog_9_method_25_code
def yX7_use : MethodName := ⟨RX7, "use", "(II)I"⟩
abbrev cX7_draw : ByteArray := prog_9_method_26_code
def yX7_draw : MethodName := ⟨RX7, "draw", "()I"⟩
abbrev cX7_deal : ByteArray := prog_9_method_27_code
def yX7_deal : MethodName := ⟨RX7, "deal", "(I)I"⟩
abbrev cX7_seed : ByteArray := prog_9_method_28_code
def yX7_seed : MethodName := ⟨RX7, "seed", "(I)I"⟩
abbrev cX7_weather : ByteArray := prog_9_method_29_code
def yX7_weather : MethodName := ⟨RX7, "weather", "(III)I"⟩
abbrev cX7_sky : ByteArray := prog_9_method_30_code
def yX7_sky : MethodName := ⟨RX7, "sky", "()I"⟩
abbrev cX7_sunset : ByteArray := prog_9_method_31_code
def yX7_sunset : MethodName := ⟨RX7, "sunset", "(I)I"⟩
abbrev cX7_snows : ByteArray := prog_9_method_32_code
def yX7_snows : MethodName := ⟨RX7, "snows", "(II)V"⟩
abbrev cX7_falls : ByteArray := prog_9_method_33_code
def yX7_falls : MethodName := ⟨RX7, "falls", "(II)V"⟩
abbrev cX7_slides : ByteArray := prog_9_method_34_code
def yX7_slides : MethodName := ⟨RX7, "slides", "()I"⟩
abbrev cX7_hour : ByteArray := prog_9_method_35_code
def yX7_hour : MethodName := ⟨RX7, "hour", "()I"⟩
abbrev cX7_hours : ByteArray := prog_9_method_36_code
def yX7_hours : MethodName := ⟨RX7, "hours", "(I)I"⟩
abbrev cX7_run : ByteArray := prog_9_method_37_code
def yX7_run : MethodName := ⟨RX7, "run", "(I)I"⟩
abbrev cX7_sumOf : ByteArray := prog_9_method_38_code
def yX7_sumOf : MethodName := ⟨RX7, "sumOf", "(I)I"⟩
abbrev cX7_kilos : ByteArray := prog_9_method_39_code
def yX7_kilos : MethodName := ⟨RX7, "kilos", "(I)I"⟩
abbrev cX7_thinks : ByteArray := prog_9_method_40_code
def yX7_thinks : MethodName := ⟨RX7, "thinks", "()V"⟩
abbrev cX7_putsBack : ByteArray := prog_9_method_41_code
def yX7_putsBack : MethodName := ⟨RX7, "putsBack", "()V"⟩
abbrev cX7_behindIt : ByteArray := prog_9_method_42_code
def yX7_behindIt : MethodName := ⟨RX7, "behindIt", "(II)I"⟩
abbrev cX7_waterAt : ByteArray := prog_9_method_43_code
def yX7_waterAt : MethodName := ⟨RX7, "waterAt", "(I)I"⟩
abbrev cX7_behind : ByteArray := prog_9_method_44_code
def yX7_behind : MethodName := ⟨RX7, "behind", "(III)I"⟩
abbrev cX7_best : ByteArray := prog_9_method_45_code
def yX7_best : MethodName := ⟨RX7, "best", "(III)I"⟩
abbrev cX7_leastRoom : ByteArray := prog_9_method_46_code
def yX7_leastRoom : MethodName := ⟨RX7, "leastRoom", "(II)I"⟩
abbrev cX7_slide : ByteArray := prog_9_method_47_code
def yX7_slide : MethodName := ⟨RX7, "slide", "()I"⟩
abbrev cX7_gains : ByteArray := prog_9_method_48_code
def yX7_gains : MethodName := ⟨RX7, "gains", "(II)I"⟩
abbrev cX7_offBy : ByteArray := prog_9_method_49_code
def yX7_offBy : MethodName := ⟨RX7, "offBy", "(II)J"⟩
abbrev cX7_explained : ByteArray := prog_9_method_50_code
def yX7_explained : MethodName := ⟨RX7, "explained", "(II)I"⟩
abbrev cX7_fine : ByteArray := prog_9_method_51_code
def yX7_fine : MethodName := ⟨RX7, "fine", "(I)I"⟩
abbrev cX7_feed : ByteArray := prog_9_method_52_code
def yX7_feed : MethodName := ⟨RX7, "feed", "(III)I"⟩
abbrev cX7_trim : ByteArray := prog_9_method_53_code
def yX7_trim : MethodName := ⟨RX7, "trim", "(I)I"⟩
abbrev cX7_isLetter : ByteArray := prog_9_method_54_code
def yX7_isLetter : MethodName := ⟨RX7, "isLetter", "(I)Z"⟩
abbrev cX7_isFigure : ByteArray := prog_9_method_55_code
def yX7_isFigure : MethodName := ⟨RX7, "isFigure", "(I)Z"⟩
abbrev cX7_go : ByteArray := prog_9_method_56_code
def yX7_go : MethodName := ⟨RX7, "go", "()V"⟩
abbrev cX7_takesKey : ByteArray := prog_9_method_57_code
def yX7_takesKey : MethodName := ⟨RX7, "takesKey", "()Z"⟩
abbrev cX7_nameOf : ByteArray := prog_9_method_58_code
def yX7_nameOf : MethodName := ⟨RX7, "nameOf", "(I)I"⟩
abbrev cX7_rank : ByteArray := prog_9_method_59_code
def yX7_rank : MethodName := ⟨RX7, "rank", "(I)I"⟩
abbrev cX7_settle : ByteArray := prog_9_method_60_code
def yX7_settle : MethodName := ⟨RX7, "settle", "(I)V"⟩
abbrev cX7_signHere : ByteArray := prog_9_method_61_code
def yX7_signHere : MethodName := ⟨RX7, "signHere", "()I"⟩
abbrev cX7_takesPart : ByteArray := prog_9_method_62_code
def yX7_takesPart : MethodName := ⟨RX7, "takesPart", "()Z"⟩
abbrev cX7_takesE : ByteArray := prog_9_method_63_code
def yX7_takesE : MethodName := ⟨RX7, "takesE", "()Z"⟩
abbrev cX7_notsOpen : ByteArray := prog_9_method_64_code
def yX7_notsOpen : MethodName := ⟨RX7, "notsOpen", "()I"⟩
abbrev cX7_text : ByteArray := prog_9_method_65_code
def yX7_text : MethodName := ⟨RX7, "text", "()I"⟩
abbrev cX7_textTold : ByteArray := prog_9_method_66_code
def yX7_textTold : MethodName := ⟨RX7, "textTold", "(II)I"⟩
abbrev cX7_counts : ByteArray := prog_9_method_67_code
def yX7_counts : MethodName := ⟨RX7, "counts", "(I)I"⟩
abbrev cX7_why : ByteArray := prog_9_method_68_code
def yX7_why : MethodName := ⟨RX7, "why", "(I)I"⟩
abbrev cX7_two : ByteArray := prog_9_method_69_code
def yX7_two : MethodName := ⟨RX7, "two", "(III)I"⟩
abbrev cX7_worksOut : ByteArray := prog_9_method_70_code
def yX7_worksOut : MethodName := ⟨RX7, "worksOut", "(I)I"⟩
abbrev cX7_isSheet : ByteArray := prog_9_method_71_code
def yX7_isSheet : MethodName := ⟨RX7, "isSheet", "(I)Z"⟩
abbrev cX7_isSlot : ByteArray := prog_9_method_72_code
def yX7_isSlot : MethodName := ⟨RX7, "isSlot", "(I)Z"⟩
abbrev cX7_sheet : ByteArray := prog_9_method_73_code
def yX7_sheet : MethodName := ⟨RX7, "sheet", "(III)I"⟩
abbrev cX7_mark : ByteArray := prog_9_method_74_code
def yX7_mark : MethodName := ⟨RX7, "mark", "(III)I"⟩
abbrev cX7_pour : ByteArray := prog_9_method_75_code
def yX7_pour : MethodName := ⟨RX7, "pour", "(I)I"⟩
abbrev cX7_reads : ByteArray := prog_9_method_76_code
def yX7_reads : MethodName := ⟨RX7, "reads", "(I)I"⟩
abbrev cX7_copy : ByteArray := prog_9_method_77_code
def yX7_copy : MethodName := ⟨RX7, "copy", "(IIIII)I"⟩
abbrev cX7_lay : ByteArray := prog_9_method_78_code
def yX7_lay : MethodName := ⟨RX7, "lay", "(III)I"⟩
abbrev cX7_ask : ByteArray := prog_9_method_79_code
def yX7_ask : MethodName := ⟨RX7, "ask", "(II)I"⟩
abbrev cX7_item : ByteArray := prog_9_method_80_code
def yX7_item : MethodName := ⟨RX7, "item", "(II)I"⟩
abbrev cX7_rest : ByteArray := prog_9_method_81_code
def yX7_rest : MethodName := ⟨RX7, "rest", "(II)I"⟩
abbrev cX7_tell : ByteArray := prog_9_method_82_code
def yX7_tell : MethodName := ⟨RX7, "tell", "(I)I"⟩
abbrev cX7_check : ByteArray := prog_9_method_83_code
def yX7_check : MethodName := ⟨RX7, "check", "(I)I"⟩
abbrev cX7_keep : ByteArray := prog_9_method_84_code
def yX7_keep : MethodName := ⟨RX7, "keep", "()I"⟩
abbrev cX7_back : ByteArray := prog_9_method_85_code
def yX7_back : MethodName := ⟨RX7, "back", "()I"⟩
abbrev cX7_count : ByteArray := prog_9_method_86_code
def yX7_count : MethodName := ⟨RX7, "count", "(I)I"⟩
def RJ11 : String := "java/lang/Character"
def TJ11 : u_T := fun k => match k with
  | _ => ("", "", "", false)
def tyJ11 : Nat → FieldType := fun k => match k with
  | _ => .int
abbrev wsJ110 : List Cond := u_ws RJ11 TJ11 0
theorem nmJ11 : ∀ a, a < 0 → ∀ b, b < 0 → a ≠ b → (TJ11 a).2.1 ≠ (TJ11 b).2.1 := by decide +kernel
theorem tyJ11_ok : ∀ k, k < 0 → parseFieldDescriptor (TJ11 k).2.2.1 = some (tyJ11 k) := by decide +kernel
abbrev cJ11_isValidCodePoint_9a6ad : ByteArray := prog_10_method_11_code
def yJ11_isValidCodePoint_9a6ad : MethodName := ⟨RJ11, "isValidCodePoint", "(I)Z"⟩
abbrev cJ11_highSurrogate_5068e : ByteArray := prog_10_method_28_code
def yJ11_highSurrogate_5068e : MethodName := ⟨RJ11, "highSurrogate", "(I)C"⟩
abbrev cJ11_lowSurrogate_5068e : ByteArray := prog_10_method_29_code
def yJ11_lowSurrogate_5068e : MethodName := ⟨RJ11, "lowSurrogate", "(I)C"⟩
def RJ9 : String := "java/lang/Math"
def TJ9 : u_T := fun k => match k with
  | _ => ("", "", "", false)
def tyJ9 : Nat → FieldType := fun k => match k with
  | _ => .int
abbrev wsJ90 : List Cond := u_ws RJ9 TJ9 0
theorem nmJ9 : ∀ a, a < 0 → ∀ b, b < 0 → a ≠ b → (TJ9 a).2.1 ≠ (TJ9 b).2.1 := by decide +kernel
theorem tyJ9_ok : ∀ k, k < 0 → parseFieldDescriptor (TJ9 k).2.2.1 = some (tyJ9 k) := by decide +kernel
abbrev cJ9_abs_0f7a4 : ByteArray := prog_11_method_59_code
def yJ9_abs_0f7a4 : MethodName := ⟨RJ9, "abs", "(I)I"⟩
abbrev cJ9_max_7cf53 : ByteArray := prog_11_method_65_code
def yJ9_max_7cf53 : MethodName := ⟨RJ9, "max", "(II)I"⟩
abbrev cJ9_min_7cf53 : ByteArray := prog_11_method_69_code
def yJ9_min_7cf53 : MethodName := ⟨RJ9, "min", "(II)I"⟩
def RJ0 : String := "java/lang/String"
def TJ0 : u_T := fun k => match k with
  | _ => ("", "", "", false)
def tyJ0 : Nat → FieldType := fun k => match k with
  | _ => .int
abbrev wsJ00 : List Cond := u_ws RJ0 TJ0 0
theorem nmJ0 : ∀ a, a < 0 → ∀ b, b < 0 → a ≠ b → (TJ0 a).2.1 ≠ (TJ0 b).2.1 := by decide +kernel
theorem tyJ0_ok : ∀ k, k < 0 → parseFieldDescriptor (TJ0 k).2.2.1 = some (tyJ0 k) := by decide +kernel
abbrev cJ0_length_8abf5 : ByteArray := prog_12_method_54_code
def yJ0_length_8abf5 : MethodName := ⟨RJ0, "length", "()I"⟩
abbrev cJ0_charAt_5068e : ByteArray := prog_12_method_56_code
def yJ0_charAt_5068e : MethodName := ⟨RJ0, "charAt", "(I)C"⟩
abbrev cJ0_indexOf_0f7a4 : ByteArray := prog_12_method_79_code
def yJ0_indexOf_0f7a4 : MethodName := ⟨RJ0, "indexOf", "(I)I"⟩
abbrev cJ0_indexOf_7cf53 : ByteArray := prog_12_method_80_code
def yJ0_indexOf_7cf53 : MethodName := ⟨RJ0, "indexOf", "(II)I"⟩
abbrev cJ0_coder_7d493 : ByteArray := prog_12_method_152_code
def yJ0_coder_7d493 : MethodName := ⟨RJ0, "coder", "()B"⟩
abbrev cJ0_isLatin1_aae02 : ByteArray := prog_12_method_154_code
def yJ0_isLatin1_aae02 : MethodName := ⟨RJ0, "isLatin1", "()Z"⟩
abbrev cJ0_checkIndex_df160 : ByteArray := prog_12_method_155_code
def yJ0_checkIndex_df160 : MethodName := ⟨RJ0, "checkIndex", "(II)V"⟩
abbrev cJ0_checkBoundsBeginEnd_23922 : ByteArray := prog_12_method_158_code
def yJ0_checkBoundsBeginEnd_23922 : MethodName := ⟨RJ0, "checkBoundsBeginEnd", "(III)V"⟩
def RJ1 : String := "java/lang/StringLatin1"
def TJ1 : u_T := fun k => match k with
  | _ => ("", "", "", false)
def tyJ1 : Nat → FieldType := fun k => match k with
  | _ => .int
abbrev wsJ10 : List Cond := u_ws RJ1 TJ1 0
theorem nmJ1 : ∀ a, a < 0 → ∀ b, b < 0 → a ≠ b → (TJ1 a).2.1 ≠ (TJ1 b).2.1 := by decide +kernel
theorem tyJ1_ok : ∀ k, k < 0 → parseFieldDescriptor (TJ1 k).2.2.1 = some (tyJ1 k) := by decide +kernel
abbrev cJ1_charAt_3b067 : ByteArray := prog_13_method_2_code
def yJ1_charAt_3b067 : MethodName := ⟨RJ1, "charAt", "([BI)C"⟩
abbrev cJ1_canEncode_9a6ad : ByteArray := prog_13_method_4_code
def yJ1_canEncode_9a6ad : MethodName := ⟨RJ1, "canEncode", "(I)Z"⟩
abbrev cJ1_indexOf_4cfef : ByteArray := prog_13_method_22_code
def yJ1_indexOf_4cfef : MethodName := ⟨RJ1, "indexOf", "([BIII)I"⟩
abbrev cJ1_indexOfChar_4cfef : ByteArray := prog_13_method_23_code
def yJ1_indexOfChar_4cfef : MethodName := ⟨RJ1, "indexOfChar", "([BIII)I"⟩
def RJ2 : String := "java/lang/StringUTF16"
def TJ2 : u_T := fun k => match k with
  | _ => ("", "", "", false)
def tyJ2 : Nat → FieldType := fun k => match k with
  | _ => .int
abbrev wsJ20 : List Cond := u_ws RJ2 TJ2 0
theorem nmJ2 : ∀ a, a < 0 → ∀ b, b < 0 → a ≠ b → (TJ2 a).2.1 ≠ (TJ2 b).2.1 := by decide +kernel
theorem tyJ2_ok : ∀ k, k < 0 → parseFieldDescriptor (TJ2 k).2.2.1 = some (tyJ2 k) := by decide +kernel
abbrev cJ2_getChar_3b067 : ByteArray := prog_14_method_5_code
def yJ2_getChar_3b067 : MethodName := ⟨RJ2, "getChar", "([BI)C"⟩
abbrev cJ2_length_9d52b : ByteArray := prog_14_method_6_code
def yJ2_length_9d52b : MethodName := ⟨RJ2, "length", "([B)I"⟩
abbrev cJ2_indexOf_4cfef : ByteArray := prog_14_method_40_code
def yJ2_indexOf_4cfef : MethodName := ⟨RJ2, "indexOf", "([BIII)I"⟩
abbrev cJ2_indexOfChar_4cfef : ByteArray := prog_14_method_47_code
def yJ2_indexOfChar_4cfef : MethodName := ⟨RJ2, "indexOfChar", "([BIII)I"⟩
abbrev cJ2_indexOfCharUnsafe_4cfef : ByteArray := prog_14_method_48_code
def yJ2_indexOfCharUnsafe_4cfef : MethodName := ⟨RJ2, "indexOfCharUnsafe", "([BIII)I"⟩
abbrev cJ2_indexOfSupplementary_4cfef : ByteArray := prog_14_method_49_code
def yJ2_indexOfSupplementary_4cfef : MethodName := ⟨RJ2, "indexOfSupplementary", "([BIII)I"⟩
abbrev cJ2_charAt_3b067 : ByteArray := prog_14_method_83_code
def yJ2_charAt_3b067 : MethodName := ⟨RJ2, "charAt", "([BI)C"⟩
abbrev cJ2_checkIndex_2214a : ByteArray := prog_14_method_91_code
def yJ2_checkIndex_2214a : MethodName := ⟨RJ2, "checkIndex", "(I[B)V"⟩
abbrev cJ2_checkBoundsBeginEnd_d044e : ByteArray := prog_14_method_93_code
def yJ2_checkBoundsBeginEnd_d044e : MethodName := ⟨RJ2, "checkBoundsBeginEnd", "(II[B)V"⟩
def RJ10 : String := "java/lang/System"
def TJ10 : u_T := fun k => match k with
  | _ => ("", "", "", false)
def tyJ10 : Nat → FieldType := fun k => match k with
  | _ => .int
abbrev wsJ100 : List Cond := u_ws RJ10 TJ10 0
theorem nmJ10 : ∀ a, a < 0 → ∀ b, b < 0 → a ≠ b → (TJ10 a).2.1 ≠ (TJ10 b).2.1 := by decide +kernel
theorem tyJ10_ok : ∀ k, k < 0 → parseFieldDescriptor (TJ10 k).2.2.1 = some (tyJ10 k) := by decide +kernel
def RJ3 : String := "jdk/internal/util/Preconditions"
def TJ3 : u_T := fun k => match k with
  | _ => ("", "", "", false)
def tyJ3 : Nat → FieldType := fun k => match k with
  | _ => .int
abbrev wsJ30 : List Cond := u_ws RJ3 TJ3 0
theorem nmJ3 : ∀ a, a < 0 → ∀ b, b < 0 → a ≠ b → (TJ3 a).2.1 ≠ (TJ3 b).2.1 := by decide +kernel
theorem tyJ3_ok : ∀ k, k < 0 → parseFieldDescriptor (TJ3 k).2.2.1 = some (tyJ3 k) := by decide +kernel
abbrev cJ3_checkIndex_8e157 : ByteArray := prog_16_method_11_code
def yJ3_checkIndex_8e157 : MethodName := ⟨RJ3, "checkIndex", "(IILjava/util/function/BiFunction;)I"⟩
abbrev cJ3_checkFromToIndex_8c36e : ByteArray := prog_16_method_12_code
def yJ3_checkFromToIndex_8c36e : MethodName := ⟨RJ3, "checkFromToIndex", "(IIILjava/util/function/BiFunction;)I"⟩
def RL : String := "RoofSnowLaw"
abbrev cL_law : ByteArray := code
def yL_law : MethodName := ⟨RL, "law", "([I)Z"⟩
end
section
/-! ===== values, memory, shapes: what a state of the system is ===== -/
abbrev vwCl : List vw_C := [(RX0, TX0, 5), (RX1, TX1, 9), (RX2, TX2, 6), (RX3, TX3, 3), (RX4, TX4, 4), (RX5, TX5, 16), (RX6, TX6, 13), (RX7, TX7, 33)]
abbrev AV : Type := Int32 ⊕ ((Nat × Nat) ⊕ (Int64 ⊕ Unit))
abbrev Mem : Type := Nat → Nat → Nat → Int32
abbrev aI (x : Int32) : AV := .inl x
abbrev aR (r i : Nat) : AV := .inr (.inl (r, i))
abbrev aL (x : Int64) : AV := .inr (.inr (.inl x))
abbrev aN : AV := .inr (.inr (.inr ()))
def cv (ad : Nat → Nat → Nat) : AV → Value
  | .inl x => .int x
  | .inr (.inl q) => .ref (ad q.1 q.2)
  | .inr (.inr (.inl x)) => .long x
  | .inr (.inr (.inr _)) => .null
def isW : AV → Bool
  | .inr (.inr (.inl _)) => true
  | _ => false
theorem cv_cat (ad : Nat → Nat → Nat) (v : AV) : ((cv ad v).category == 2) = isW v := by
  rcases v with x | ⟨q⟩ | x | x <;> rfl
def ma (V : Mem) (r i : Nat) (f : Nat → Int32) : Mem := fun r' i' => if r' = r ∧ i' = i then f else V r' i'
def mu (V : Mem) (r i k : Nat) (x : Int32) : Mem := ma V r i (upd (V r i) k x)
theorem ma_same (V : Mem) (r i : Nat) (f : Nat → Int32) : ma V r i f r i = f := if_pos ⟨rfl, rfl⟩
theorem ma_ne {V : Mem} {r i r' i' : Nat} {f : Nat → Int32} (h : ¬ (r' = r ∧ i' = i)) : ma V r i f r' i' = V r' i' := if_neg h
abbrev Shp : Type := (Nat × List (Option (Nat × (Nat → Nat)))) ⊕ (Nat × FieldType × Option (Nat × (Nat → Nat → Nat)))
def sh : Nat → Shp := fun r => match r with
  | 0 => .inl (6, [some (1, fun _ => 0), some (2, fun _ => 0), some (2, fun _ => 1), some (2, fun _ => 2), none, some (17, fun _ => 0), none, some (6, fun _ => 0), some (19, fun _ => 0), some (20, fun _ => 0), some (21, fun _ => 0), none, some (22, fun _ => 0)])
  | 1 => .inl (0, [some (7, fun _ => 0), some (8, fun _ => 0), some (9, fun _ => 0), some (10, fun _ => 0), some (12, fun _ => 0)])
  | 2 => .inl (5, [some (1, fun _ => 0), some (13, fun i => i), some (14, fun i => i), some (15, fun i => i), some (16, fun i => i), none, none, none, none, none, none, none, none, none, none, none])
  | 3 => .inl (2, [none, none, none, none, none, none])
  | 4 => .inl (3, [none, none, some (23, fun i => i)])
  | 5 => .inl (4, [none, none, some (3, fun i => 24 + i), some (4, fun i => 4 + i)])
  | 6 => .inl (1, [some (17, fun _ => 0), some (18, fun _ => 0), none, none, none, none, none, none, none])
  | 7 => .inr (14, .int, none)
  | 8 => .inr (14, .int, none)
  | 9 => .inr (14, .int, none)
  | 10 => .inr (14, (.array .int), some (11, fun _ j => j))
  | 11 => .inr (96, .int, none)
  | 12 => .inr (96, .int, none)
  | 13 => .inr (8, (.object "RoofSnow$Roof"), some (3, fun i j => 8 * i + j))
  | 14 => .inr (24, .int, none)
  | 15 => .inr (24, .int, none)
  | 16 => .inr (3, .int, none)
  | 17 => .inr (96, .int, none)
  | 18 => .inr (96, .int, none)
  | 19 => .inr (4, (.object "RoofSnow$Sheet"), some (4, fun _ j => j))
  | 20 => .inr (5, (.object "RoofSnow$Slot"), some (5, fun _ j => j))
  | 21 => .inr (60, .int, none)
  | 22 => .inr (8, .int, none)
  | 23 => .inr (24, .int, none)
  | 24 => .inl (7, [some (25, fun _ => 0), some (26, fun _ => 0), some (27, fun _ => 0), none, some (28, fun _ => 0), some (29, fun _ => 0), none, none, none, none, none, none, none, some (30, fun _ => 0), some (31, fun _ => 0), some (32, fun _ => 0), none, none, some (33, fun _ => 0), none, some (34, fun _ => 0), some (35, fun _ => 0), some (36, fun _ => 0), some (37, fun _ => 0), some (38, fun _ => 0), some (39, fun _ => 0), some (40, fun _ => 0), some (41, fun _ => 0), some (42, fun _ => 0), some (43, fun _ => 0), some (44, fun _ => 0), some (45, fun _ => 0), none])
  | 25 => .inr (1479, .int, none)
  | 26 => .inr (1479, .int, none)
  | 27 => .inr (1479, .int, none)
  | 28 => .inr (107, .int, none)
  | 29 => .inr (96, .int, none)
  | 30 => .inr (13, .char, none)
  | 31 => .inr (4, .int, none)
  | 32 => .inr (96, .int, none)
  | 33 => .inr (96, .int, none)
  | 34 => .inr (10, .boolean, none)
  | 35 => .inr (96, .int, none)
  | 36 => .inr (4, .int, none)
  | 37 => .inr (4, .int, none)
  | 38 => .inr (4, .int, none)
  | 39 => .inr (96, .int, none)
  | 40 => .inr (5, .int, none)
  | 41 => .inr (5, .int, none)
  | 42 => .inr (5, .int, none)
  | 43 => .inr (120, .int, none)
  | 44 => .inr (24, .int, none)
  | 45 => .inr (60, .int, none)
  | _ => .inr (0, .int, none)
def cnt : Nat → Nat := fun r => match r with
  | 2 => 3
  | 3 => 29
  | 4 => 9
  | 5 => 5
  | 11 => 14
  | 13 => 3
  | 14 => 3
  | 15 => 3
  | 16 => 3
  | 23 => 9
  | _ => 1
def fv1 (ad : Nat → Nat → Nat) (f : Nat → Int32) (i k : Nat) : Option (Nat × (Nat → Nat)) → Value
  | none => Value.int (f k)
  | some q => Value.ref (ad q.1 (q.2 i))
def fvs (ad : Nat → Nat → Nat) (f : Nat → Int32) (i : Nat) (ks : List (Option (Nat × (Nat → Nat)))) : List Value := ks.mapIdx (fun k o => fv1 ad f i k o)
def cE (ad : Nat → Nat → Nat) (dA : Nat → Nat → ClassId) (f : Nat → Int32) (r i : Nat) : va_E := match sh r with
  | .inl q => .inr (q.1, fvs ad f i q.2)
  | .inr (n, _, none) => .inl (dA r i, n, .inl f)
  | .inr (n, _, some q) => .inl (dA r i, n, .inr (.inr (.inr (.inr (fun j => some (ad q.1 (q.2 i j)))))))
abbrev Uv : Type := List (Nat × Nat)
def wsU (ad : Nat → Nat → Nat) (dA : Nat → Nat → ClassId) (U : Uv) (V : Mem) : va_W := U.map (fun q => (ad q.1 q.2, cE ad dA (V q.1 q.2) q.1 q.2))
def tyU (dA : Nat → Nat → ClassId) (U : Uv) : List (ClassId × FieldType) := U.filterMap (fun q => match sh q.1 with | .inl _ => none | .inr s => some (dA q.1 q.2, s.2.1))
def AU (ad : Nat → Nat → Nat) (U : Uv) : Nat → Prop := fun q => ∃ x ∈ U, q = ad x.1 x.2
def Inj (ad : Nat → Nat → Nat) (U : Uv) : Prop := ∀ (i j : Nat) (x y : Nat × Nat), U[i]? = some x → U[j]? = some y → ad x.1 x.2 = ad y.1 y.2 → i = j
theorem ws_at {ad : Nat → Nat → Nat} {dA : Nat → Nat → ClassId} {U : Uv} (V : Mem) {r i : Nat} (h : (r, i) ∈ U) : ∃ p : Nat, U[p]? = some (r, i) ∧ (wsU ad dA U V)[p]? = some (ad r i, cE ad dA (V r i) r i) := by
  obtain ⟨p, hp⟩ := List.getElem?_of_mem h
  exact ⟨p, hp, by rw [wsU, List.getElem?_map, hp]; rfl⟩
theorem ty_at {dA : Nat → Nat → ClassId} {U : Uv} {r i n : Nat} {ty : FieldType} {o : Option (Nat × (Nat → Nat → Nat))} (h : (r, i) ∈ U) (hs : sh r = .inr (n, ty, o)) : ∃ t : Nat, (tyU dA U)[t]? = some (dA r i, ty) := by
  apply List.getElem?_of_mem
  refine List.mem_filterMap.mpr ⟨(r, i), h, ?_⟩
  simp only [hs]
theorem ws_D {ad : Nat → Nat → Nat} {dA : Nat → Nat → ClassId} {U : Uv} (V : Mem) (h : Inj ad U) : va_D (AU ad U) (wsU ad dA U V) := by
  have key : ∀ (k : Nat) (q : Nat × va_E), (wsU ad dA U V)[k]? = some q → ∃ x, U[k]? = some x ∧ q.1 = ad x.1 x.2 := by
    intro k q hk
    rw [wsU, List.getElem?_map] at hk
    cases hu : U[k]? with
    | none => rw [hu] at hk; cases hk
    | some x => rw [hu] at hk; cases hk; exact ⟨x, rfl, rfl⟩
  refine ⟨fun i j p q hi hj hpq => ?_, fun k q hk => ?_⟩
  · obtain ⟨x, h1, h2⟩ := key i p hi
    obtain ⟨y, h3, h4⟩ := key j q hj
    exact h i j x y h1 h3 (by rw [← h2, ← h4]; exact hpq)
  · obtain ⟨x, h1, h2⟩ := key k q hk
    exact ⟨x, List.mem_of_getElem? h1, h2⟩
theorem ws_set {ad : Nat → Nat → Nat} {dA : Nat → Nat → ClassId} {U : Uv} {V : Mem} {p r i : Nat} {f : Nat → Int32} {e : va_E} (hI : Inj ad U) (hp : U[p]? = some (r, i)) (he : cE ad dA f r i = e) : (wsU ad dA U V).set p (ad r i, e) = wsU ad dA U (ma V r i f) := by
  apply List.ext_getElem?
  intro k
  by_cases hk : k = p
  · subst hk
    have hl : k < (wsU ad dA U V).length := by rw [wsU, List.length_map]; exact (List.getElem?_eq_some_iff.mp hp).1
    rw [List.getElem?_set_self hl, wsU, List.getElem?_map, hp]
    show some (ad r i, e) = some (ad r i, cE ad dA (ma V r i f r i) r i)
    rw [ma_same, he]
  · rw [List.getElem?_set_ne (Ne.symm hk), wsU, wsU, List.getElem?_map, List.getElem?_map]
    cases hu : U[k]? with
    | none => rfl
    | some x =>
      have hne : ¬ (x.1 = r ∧ x.2 = i) := fun h => hk (hI k p x (r, i) hu hp (by rw [h.1, h.2]))
      show some (ad x.1 x.2, cE ad dA (V x.1 x.2) x.1 x.2) = some (ad x.1 x.2, cE ad dA (ma V r i f x.1 x.2) x.1 x.2)
      rw [ma_ne hne]
theorem fvs_get {ad : Nat → Nat → Nat} {f : Nat → Int32} {i k : Nat} {ks : List (Option (Nat × (Nat → Nat)))} {o : Option (Nat × (Nat → Nat))} (h : ks[k]? = some o) : (fvs ad f i ks)[k]? = some (fv1 ad f i k o) := by
  rw [fvs, List.getElem?_mapIdx, h]; rfl
theorem fvs_len {ad : Nat → Nat → Nat} {f : Nat → Int32} {i : Nat} {ks : List (Option (Nat × (Nat → Nat)))} : (fvs ad f i ks).length = ks.length := by
  rw [fvs, List.length_mapIdx]
theorem fvs_set {ad : Nat → Nat → Nat} {f : Nat → Int32} {i k : Nat} {x : Int32} {ks : List (Option (Nat × (Nat → Nat)))} (h : ks[k]? = some none) : fvs ad (upd f k x) i ks = (fvs ad f i ks).set k (.int x) := by
  apply List.ext_getElem?
  intro j
  by_cases hj : j = k
  · subst hj
    have hl : j < (fvs ad f i ks).length := by rw [fvs_len]; exact (List.getElem?_eq_some_iff.mp h).1
    rw [List.getElem?_set_self hl, fvs_get h]
    simp [upd, fv1]
  · rw [List.getElem?_set_ne (Ne.symm hj), fvs, fvs, List.getElem?_mapIdx, List.getElem?_mapIdx]
    cases hk : ks[j]? with
    | none => rfl
    | some o =>
      cases o with
      | none => simp [upd, hj, fv1]
      | some q => rfl
def WSU : List Cond := lw_tbl.filter goodWord
theorem wsu_of {w : Cond} (i : Nat) (h : lw_tbl[i]? = some w) (hg : goodWord w = true) : w ∈ WSU := List.mem_filter.mpr ⟨List.mem_of_getElem? h, hg⟩
theorem wsu_good {ws : List Cond} (h : ∀ w ∈ ws, w ∈ WSU) : GoodIn WSU ws := fun w hw => ⟨h w hw, good_of_word (List.mem_filter.mp (h w hw)).2⟩
abbrev MI : Type := MethodName × ByteArray × Nat × Option FieldType
def FG (own : String) (idx r k : Nat) (o : Option (Nat × (Nat → Nat))) : Prop := ∃ (ci N : Nat) (C : String) (T : u_T) (ks : List (Option (Nat × (Nat → Nat)))), sh r = .inl (ci, ks) ∧ vwCl[ci]? = some (C, T, N) ∧ k < N ∧ ks[k]? = some o ∧ (∀ w ∈ u_ws C T N, w ∈ WSU) ∧ Cond.fieldLink own idx (T k).1 (T k).2.1 (T k).2.2.1 ∈ WSU
def FP (own : String) (idx r k : Nat) (ty : FieldType) : Prop := ∃ (ci N : Nat) (C : String) (T : u_T) (ks : List (Option (Nat × (Nat → Nat)))) (ty0 : Nat → FieldType), sh r = .inl (ci, ks) ∧ vwCl[ci]? = some (C, T, N) ∧ k < N ∧ ks[k]? = some none ∧ (∀ w ∈ u_ws C T N, w ∈ WSU) ∧ Cond.fieldLink own idx (T k).1 (T k).2.1 (T k).2.2.1 ∈ WSU ∧ (∀ k, k < N → parseFieldDescriptor (T k).2.2.1 = some (ty0 k)) ∧ (∀ a, a < N → ∀ b, b < N → a ≠ b → (T a).2.1 ≠ (T b).2.1) ∧ (T k).2.2.2 = false ∧ parseFieldDescriptor (T k).2.2.1 = some ty
/-- what the tables say of a method that is called -/
def MV (M : MI) (n : Nat) : Prop := Cond.code M.1 M.2.1 M.2.2.1 M.2.2.2 ∈ WSU ∧ Cond.initialized M.1.cls ∈ WSU ∧ (M.1.cls ≠ "java/lang/invoke/MethodHandle" ∧ M.1.cls ≠ "java/lang/invoke/VarHandle" ∧ (parseMethodDescriptor M.1.desc).map (fun d => d.parameters.length) = some n) ∧ M.2.2.1 ≤ 40 ∧ Cond.instanceMethod M.1 ∈ WSU ∧ Cond.selects M.1.cls M.1 M.1 ∈ WSU
def MS (M : MI) (n : Nat) : Prop := Cond.code M.1 M.2.1 M.2.2.1 M.2.2.2 ∈ WSU ∧ Cond.initialized M.1.cls ∈ WSU ∧ (M.1.cls ≠ "java/lang/invoke/MethodHandle" ∧ M.1.cls ≠ "java/lang/invoke/VarHandle" ∧ (parseMethodDescriptor M.1.desc).map (fun d => d.parameters.length) = some n) ∧ M.2.2.1 ≤ 40 ∧ Cond.static M.1 ∈ WSU
end
section
theorem inU0 : ∀ w ∈ u_ws RX0 TX0 5, w ∈ WSU := by
  intro w hw
  obtain ⟨k, hk, rfl⟩ := List.mem_map.mp hw
  have hk := List.mem_range.mp hk
  match k, hk with
  | 0, _ => exact wsu_of 97 (by decide +kernel) rfl
  | 1, _ => exact wsu_of 99 (by decide +kernel) rfl
  | 2, _ => exact wsu_of 101 (by decide +kernel) rfl
  | 3, _ => exact wsu_of 103 (by decide +kernel) rfl
  | 4, _ => exact wsu_of 105 (by decide +kernel) rfl
  | k + 5, h => exact absurd h (by omega)
theorem inU1 : ∀ w ∈ u_ws RX1 TX1 9, w ∈ WSU := by
  intro w hw
  obtain ⟨k, hk, rfl⟩ := List.mem_map.mp hw
  have hk := List.mem_range.mp hk
  match k, hk with
  | 0, _ => exact wsu_of 238 (by decide +kernel) rfl
  | 1, _ => exact wsu_of 240 (by decide +kernel) rfl
  | 2, _ => exact wsu_of 242 (by decide +kernel) rfl
  | 3, _ => exact wsu_of 244 (by decide +kernel) rfl
  | 4, _ => exact wsu_of 246 (by decide +kernel) rfl
  | 5, _ => exact wsu_of 248 (by decide +kernel) rfl
  | 6, _ => exact wsu_of 250 (by decide +kernel) rfl
  | 7, _ => exact wsu_of 252 (by decide +kernel) rfl
  | 8, _ => exact wsu_of 254 (by decide +kernel) rfl
  | k + 9, h => exact absurd h (by omega)
theorem inU2 : ∀ w ∈ u_ws RX2 TX2 6, w ∈ WSU := by
  intro w hw
  obtain ⟨k, hk, rfl⟩ := List.mem_map.mp hw
  have hk := List.mem_range.mp hk
  match k, hk with
  | 0, _ => exact wsu_of 140 (by decide +kernel) rfl
  | 1, _ => exact wsu_of 142 (by decide +kernel) rfl
  | 2, _ => exact wsu_of 144 (by decide +kernel) rfl
  | 3, _ => exact wsu_of 146 (by decide +kernel) rfl
  | 4, _ => exact wsu_of 148 (by decide +kernel) rfl
  | 5, _ => exact wsu_of 150 (by decide +kernel) rfl
  | k + 6, h => exact absurd h (by omega)
theorem inU3 : ∀ w ∈ u_ws RX3 TX3 3, w ∈ WSU := by
  intro w hw
  obtain ⟨k, hk, rfl⟩ := List.mem_map.mp hw
  have hk := List.mem_range.mp hk
  match k, hk with
  | 0, _ => exact wsu_of 272 (by decide +kernel) rfl
  | 1, _ => exact wsu_of 274 (by decide +kernel) rfl
  | 2, _ => exact wsu_of 276 (by decide +kernel) rfl
  | k + 3, h => exact absurd h (by omega)
theorem inU4 : ∀ w ∈ u_ws RX4 TX4 4, w ∈ WSU := by
  intro w hw
  obtain ⟨k, hk, rfl⟩ := List.mem_map.mp hw
  have hk := List.mem_range.mp hk
  match k, hk with
  | 0, _ => exact wsu_of 296 (by decide +kernel) rfl
  | 1, _ => exact wsu_of 298 (by decide +kernel) rfl
  | 2, _ => exact wsu_of 300 (by decide +kernel) rfl
  | 3, _ => exact wsu_of 302 (by decide +kernel) rfl
  | k + 4, h => exact absurd h (by omega)
theorem inU5 : ∀ w ∈ u_ws RX5 TX5 16, w ∈ WSU := by
  intro w hw
  obtain ⟨k, hk, rfl⟩ := List.mem_map.mp hw
  have hk := List.mem_range.mp hk
  match k, hk with
  | 0, _ => exact wsu_of 184 (by decide +kernel) rfl
  | 1, _ => exact wsu_of 186 (by decide +kernel) rfl
  | 2, _ => exact wsu_of 188 (by decide +kernel) rfl
  | 3, _ => exact wsu_of 190 (by decide +kernel) rfl
  | 4, _ => exact wsu_of 192 (by decide +kernel) rfl
  | 5, _ => exact wsu_of 194 (by decide +kernel) rfl
  | 6, _ => exact wsu_of 196 (by decide +kernel) rfl
  | 7, _ => exact wsu_of 198 (by decide +kernel) rfl
  | 8, _ => exact wsu_of 200 (by decide +kernel) rfl
  | 9, _ => exact wsu_of 202 (by decide +kernel) rfl
  | 10, _ => exact wsu_of 204 (by decide +kernel) rfl
  | 11, _ => exact wsu_of 206 (by decide +kernel) rfl
  | 12, _ => exact wsu_of 208 (by decide +kernel) rfl
  | 13, _ => exact wsu_of 210 (by decide +kernel) rfl
  | 14, _ => exact wsu_of 212 (by decide +kernel) rfl
  | 15, _ => exact wsu_of 214 (by decide +kernel) rfl
  | k + 16, h => exact absurd h (by omega)
theorem inU6 : ∀ w ∈ u_ws RX6 TX6 13, w ∈ WSU := by
  intro w hw
  obtain ⟨k, hk, rfl⟩ := List.mem_map.mp hw
  have hk := List.mem_range.mp hk
  match k, hk with
  | 0, _ => exact wsu_of 318 (by decide +kernel) rfl
  | 1, _ => exact wsu_of 320 (by decide +kernel) rfl
  | 2, _ => exact wsu_of 322 (by decide +kernel) rfl
  | 3, _ => exact wsu_of 324 (by decide +kernel) rfl
  | 4, _ => exact wsu_of 326 (by decide +kernel) rfl
  | 5, _ => exact wsu_of 328 (by decide +kernel) rfl
  | 6, _ => exact wsu_of 330 (by decide +kernel) rfl
  | 7, _ => exact wsu_of 332 (by decide +kernel) rfl
  | 8, _ => exact wsu_of 334 (by decide +kernel) rfl
  | 9, _ => exact wsu_of 336 (by decide +kernel) rfl
  | 10, _ => exact wsu_of 338 (by decide +kernel) rfl
  | 11, _ => exact wsu_of 340 (by decide +kernel) rfl
  | 12, _ => exact wsu_of 342 (by decide +kernel) rfl
  | k + 13, h => exact absurd h (by omega)
theorem inU7 : ∀ w ∈ u_ws RX7 TX7 33, w ∈ WSU := by
  intro w hw
  obtain ⟨k, hk, rfl⟩ := List.mem_map.mp hw
  have hk := List.mem_range.mp hk
  match k, hk with
  | 0, _ => exact wsu_of 956 (by decide +kernel) rfl
  | 1, _ => exact wsu_of 958 (by decide +kernel) rfl
  | 2, _ => exact wsu_of 960 (by decide +kernel) rfl
  | 3, _ => exact wsu_of 962 (by decide +kernel) rfl
  | 4, _ => exact wsu_of 964 (by decide +kernel) rfl
  | 5, _ => exact wsu_of 966 (by decide +kernel) rfl
  | 6, _ => exact wsu_of 968 (by decide +kernel) rfl
  | 7, _ => exact wsu_of 970 (by decide +kernel) rfl
  | 8, _ => exact wsu_of 972 (by decide +kernel) rfl
  | 9, _ => exact wsu_of 974 (by decide +kernel) rfl
  | 10, _ => exact wsu_of 976 (by decide +kernel) rfl
  | 11, _ => exact wsu_of 978 (by decide +kernel) rfl
  | 12, _ => exact wsu_of 980 (by decide +kernel) rfl
  | 13, _ => exact wsu_of 982 (by decide +kernel) rfl
  | 14, _ => exact wsu_of 984 (by decide +kernel) rfl
  | 15, _ => exact wsu_of 986 (by decide +kernel) rfl
  | 16, _ => exact wsu_of 988 (by decide +kernel) rfl
  | 17, _ => exact wsu_of 990 (by decide +kernel) rfl
  | 18, _ => exact wsu_of 992 (by decide +kernel) rfl
  | 19, _ => exact wsu_of 994 (by decide +kernel) rfl
  | 20, _ => exact wsu_of 996 (by decide +kernel) rfl
  | 21, _ => exact wsu_of 998 (by decide +kernel) rfl
  | 22, _ => exact wsu_of 1000 (by decide +kernel) rfl
  | 23, _ => exact wsu_of 1002 (by decide +kernel) rfl
  | 24, _ => exact wsu_of 1004 (by decide +kernel) rfl
  | 25, _ => exact wsu_of 1006 (by decide +kernel) rfl
  | 26, _ => exact wsu_of 1008 (by decide +kernel) rfl
  | 27, _ => exact wsu_of 1010 (by decide +kernel) rfl
  | 28, _ => exact wsu_of 1012 (by decide +kernel) rfl
  | 29, _ => exact wsu_of 1014 (by decide +kernel) rfl
  | 30, _ => exact wsu_of 1016 (by decide +kernel) rfl
  | 31, _ => exact wsu_of 1018 (by decide +kernel) rfl
  | 32, _ => exact wsu_of 1020 (by decide +kernel) rfl
  | k + 33, h => exact absurd h (by omega)
theorem fg_X0_9 : FG RX0 9 1 0 (some (7, fun _ => 0)) := ⟨0, 5, RX0, TX0, _, rfl, rfl, by decide, rfl, inU0, wsu_of 90 (by decide +kernel) rfl⟩
theorem fg_X6_261 : FG RX6 261 1 0 (some (7, fun _ => 0)) := ⟨0, 5, RX0, TX0, _, rfl, rfl, by decide, rfl, inU0, wsu_of 91 (by decide +kernel) rfl⟩
theorem fg_X0_15 : FG RX0 15 1 1 (some (8, fun _ => 0)) := ⟨0, 5, RX0, TX0, _, rfl, rfl, by decide, rfl, inU0, wsu_of 92 (by decide +kernel) rfl⟩
theorem fg_X6_264 : FG RX6 264 1 1 (some (8, fun _ => 0)) := ⟨0, 5, RX0, TX0, _, rfl, rfl, by decide, rfl, inU0, wsu_of 93 (by decide +kernel) rfl⟩
theorem fg_X0_18 : FG RX0 18 1 2 (some (9, fun _ => 0)) := ⟨0, 5, RX0, TX0, _, rfl, rfl, by decide, rfl, inU0, wsu_of 94 (by decide +kernel) rfl⟩
theorem fg_X0_23 : FG RX0 23 1 3 (some (10, fun _ => 0)) := ⟨0, 5, RX0, TX0, _, rfl, rfl, by decide, rfl, inU0, wsu_of 95 (by decide +kernel) rfl⟩
theorem fg_X0_26 : FG RX0 26 1 4 (some (12, fun _ => 0)) := ⟨0, 5, RX0, TX0, _, rfl, rfl, by decide, rfl, inU0, wsu_of 96 (by decide +kernel) rfl⟩
theorem fg_X2_9 : FG RX2 9 3 0 (none) := ⟨2, 6, RX2, TX2, _, rfl, rfl, by decide, rfl, inU2, wsu_of 123 (by decide +kernel) rfl⟩
theorem fp_X2_9 : FP RX2 9 3 0 .int := ⟨2, 6, RX2, TX2, _, tyX2, rfl, rfl, by decide, rfl, inU2, wsu_of 123 (by decide +kernel) rfl, tyX2_ok, nmX2, rfl, by decide +kernel⟩
theorem fg_X6_99 : FG RX6 99 3 0 (none) := ⟨2, 6, RX2, TX2, _, rfl, rfl, by decide, rfl, inU2, wsu_of 124 (by decide +kernel) rfl⟩
theorem fp_X6_99 : FP RX6 99 3 0 .int := ⟨2, 6, RX2, TX2, _, tyX2, rfl, rfl, by decide, rfl, inU2, wsu_of 124 (by decide +kernel) rfl, tyX2_ok, nmX2, rfl, by decide +kernel⟩
theorem fg_X5_114 : FG RX5 114 3 0 (none) := ⟨2, 6, RX2, TX2, _, rfl, rfl, by decide, rfl, inU2, wsu_of 125 (by decide +kernel) rfl⟩
theorem fp_X5_114 : FP RX5 114 3 0 .int := ⟨2, 6, RX2, TX2, _, tyX2, rfl, rfl, by decide, rfl, inU2, wsu_of 125 (by decide +kernel) rfl, tyX2_ok, nmX2, rfl, by decide +kernel⟩
theorem fg_X2_15 : FG RX2 15 3 1 (none) := ⟨2, 6, RX2, TX2, _, rfl, rfl, by decide, rfl, inU2, wsu_of 126 (by decide +kernel) rfl⟩
theorem fp_X2_15 : FP RX2 15 3 1 .int := ⟨2, 6, RX2, TX2, _, tyX2, rfl, rfl, by decide, rfl, inU2, wsu_of 126 (by decide +kernel) rfl, tyX2_ok, nmX2, rfl, by decide +kernel⟩
theorem fg_X6_104 : FG RX6 104 3 1 (none) := ⟨2, 6, RX2, TX2, _, rfl, rfl, by decide, rfl, inU2, wsu_of 127 (by decide +kernel) rfl⟩
theorem fp_X6_104 : FP RX6 104 3 1 .int := ⟨2, 6, RX2, TX2, _, tyX2, rfl, rfl, by decide, rfl, inU2, wsu_of 127 (by decide +kernel) rfl, tyX2_ok, nmX2, rfl, by decide +kernel⟩
theorem fg_X5_93 : FG RX5 93 3 1 (none) := ⟨2, 6, RX2, TX2, _, rfl, rfl, by decide, rfl, inU2, wsu_of 128 (by decide +kernel) rfl⟩
theorem fp_X5_93 : FP RX5 93 3 1 .int := ⟨2, 6, RX2, TX2, _, tyX2, rfl, rfl, by decide, rfl, inU2, wsu_of 128 (by decide +kernel) rfl, tyX2_ok, nmX2, rfl, by decide +kernel⟩
theorem fg_X2_18 : FG RX2 18 3 2 (none) := ⟨2, 6, RX2, TX2, _, rfl, rfl, by decide, rfl, inU2, wsu_of 129 (by decide +kernel) rfl⟩
theorem fp_X2_18 : FP RX2 18 3 2 .int := ⟨2, 6, RX2, TX2, _, tyX2, rfl, rfl, by decide, rfl, inU2, wsu_of 129 (by decide +kernel) rfl, tyX2_ok, nmX2, rfl, by decide +kernel⟩
theorem fg_X6_107 : FG RX6 107 3 2 (none) := ⟨2, 6, RX2, TX2, _, rfl, rfl, by decide, rfl, inU2, wsu_of 130 (by decide +kernel) rfl⟩
theorem fp_X6_107 : FP RX6 107 3 2 .int := ⟨2, 6, RX2, TX2, _, tyX2, rfl, rfl, by decide, rfl, inU2, wsu_of 130 (by decide +kernel) rfl, tyX2_ok, nmX2, rfl, by decide +kernel⟩
theorem fg_X5_86 : FG RX5 86 3 2 (none) := ⟨2, 6, RX2, TX2, _, rfl, rfl, by decide, rfl, inU2, wsu_of 131 (by decide +kernel) rfl⟩
theorem fp_X5_86 : FP RX5 86 3 2 .int := ⟨2, 6, RX2, TX2, _, tyX2, rfl, rfl, by decide, rfl, inU2, wsu_of 131 (by decide +kernel) rfl, tyX2_ok, nmX2, rfl, by decide +kernel⟩
theorem fg_X2_21 : FG RX2 21 3 3 (none) := ⟨2, 6, RX2, TX2, _, rfl, rfl, by decide, rfl, inU2, wsu_of 132 (by decide +kernel) rfl⟩
theorem fp_X2_21 : FP RX2 21 3 3 .int := ⟨2, 6, RX2, TX2, _, tyX2, rfl, rfl, by decide, rfl, inU2, wsu_of 132 (by decide +kernel) rfl, tyX2_ok, nmX2, rfl, by decide +kernel⟩
theorem fg_X6_110 : FG RX6 110 3 3 (none) := ⟨2, 6, RX2, TX2, _, rfl, rfl, by decide, rfl, inU2, wsu_of 133 (by decide +kernel) rfl⟩
theorem fp_X6_110 : FP RX6 110 3 3 .int := ⟨2, 6, RX2, TX2, _, tyX2, rfl, rfl, by decide, rfl, inU2, wsu_of 133 (by decide +kernel) rfl, tyX2_ok, nmX2, rfl, by decide +kernel⟩
theorem fg_X2_24 : FG RX2 24 3 4 (none) := ⟨2, 6, RX2, TX2, _, rfl, rfl, by decide, rfl, inU2, wsu_of 134 (by decide +kernel) rfl⟩
theorem fp_X2_24 : FP RX2 24 3 4 .int := ⟨2, 6, RX2, TX2, _, tyX2, rfl, rfl, by decide, rfl, inU2, wsu_of 134 (by decide +kernel) rfl, tyX2_ok, nmX2, rfl, by decide +kernel⟩
theorem fg_X6_113 : FG RX6 113 3 4 (none) := ⟨2, 6, RX2, TX2, _, rfl, rfl, by decide, rfl, inU2, wsu_of 135 (by decide +kernel) rfl⟩
theorem fp_X6_113 : FP RX6 113 3 4 .int := ⟨2, 6, RX2, TX2, _, tyX2, rfl, rfl, by decide, rfl, inU2, wsu_of 135 (by decide +kernel) rfl, tyX2_ok, nmX2, rfl, by decide +kernel⟩
theorem fg_X5_117 : FG RX5 117 3 4 (none) := ⟨2, 6, RX2, TX2, _, rfl, rfl, by decide, rfl, inU2, wsu_of 136 (by decide +kernel) rfl⟩
theorem fp_X5_117 : FP RX5 117 3 4 .int := ⟨2, 6, RX2, TX2, _, tyX2, rfl, rfl, by decide, rfl, inU2, wsu_of 136 (by decide +kernel) rfl, tyX2_ok, nmX2, rfl, by decide +kernel⟩
theorem fg_X2_27 : FG RX2 27 3 5 (none) := ⟨2, 6, RX2, TX2, _, rfl, rfl, by decide, rfl, inU2, wsu_of 137 (by decide +kernel) rfl⟩
theorem fp_X2_27 : FP RX2 27 3 5 .int := ⟨2, 6, RX2, TX2, _, tyX2, rfl, rfl, by decide, rfl, inU2, wsu_of 137 (by decide +kernel) rfl, tyX2_ok, nmX2, rfl, by decide +kernel⟩
theorem fg_X6_116 : FG RX6 116 3 5 (none) := ⟨2, 6, RX2, TX2, _, rfl, rfl, by decide, rfl, inU2, wsu_of 138 (by decide +kernel) rfl⟩
theorem fp_X6_116 : FP RX6 116 3 5 .int := ⟨2, 6, RX2, TX2, _, tyX2, rfl, rfl, by decide, rfl, inU2, wsu_of 138 (by decide +kernel) rfl, tyX2_ok, nmX2, rfl, by decide +kernel⟩
theorem fg_X5_96 : FG RX5 96 3 5 (none) := ⟨2, 6, RX2, TX2, _, rfl, rfl, by decide, rfl, inU2, wsu_of 139 (by decide +kernel) rfl⟩
theorem fp_X5_96 : FP RX5 96 3 5 .int := ⟨2, 6, RX2, TX2, _, tyX2, rfl, rfl, by decide, rfl, inU2, wsu_of 139 (by decide +kernel) rfl, tyX2_ok, nmX2, rfl, by decide +kernel⟩
theorem fg_X5_62 : FG RX5 62 2 0 (some (1, fun _ => 0)) := ⟨5, 16, RX5, TX5, _, rfl, rfl, by decide, rfl, inU5, wsu_of 153 (by decide +kernel) rfl⟩
theorem fg_X5_11 : FG RX5 11 2 1 (some (13, fun i => i)) := ⟨5, 16, RX5, TX5, _, rfl, rfl, by decide, rfl, inU5, wsu_of 154 (by decide +kernel) rfl⟩
theorem fg_X6_95 : FG RX6 95 2 1 (some (13, fun i => i)) := ⟨5, 16, RX5, TX5, _, rfl, rfl, by decide, rfl, inU5, wsu_of 155 (by decide +kernel) rfl⟩
theorem fg_X5_17 : FG RX5 17 2 2 (some (14, fun i => i)) := ⟨5, 16, RX5, TX5, _, rfl, rfl, by decide, rfl, inU5, wsu_of 156 (by decide +kernel) rfl⟩
theorem fg_X6_171 : FG RX6 171 2 2 (some (14, fun i => i)) := ⟨5, 16, RX5, TX5, _, rfl, rfl, by decide, rfl, inU5, wsu_of 157 (by decide +kernel) rfl⟩
theorem fg_X5_21 : FG RX5 21 2 3 (some (15, fun i => i)) := ⟨5, 16, RX5, TX5, _, rfl, rfl, by decide, rfl, inU5, wsu_of 158 (by decide +kernel) rfl⟩
theorem fg_X6_178 : FG RX6 178 2 3 (some (15, fun i => i)) := ⟨5, 16, RX5, TX5, _, rfl, rfl, by decide, rfl, inU5, wsu_of 159 (by decide +kernel) rfl⟩
theorem fg_X5_25 : FG RX5 25 2 4 (some (16, fun i => i)) := ⟨5, 16, RX5, TX5, _, rfl, rfl, by decide, rfl, inU5, wsu_of 160 (by decide +kernel) rfl⟩
theorem fg_X6_255 : FG RX6 255 2 4 (some (16, fun i => i)) := ⟨5, 16, RX5, TX5, _, rfl, rfl, by decide, rfl, inU5, wsu_of 161 (by decide +kernel) rfl⟩
theorem fg_X5_28 : FG RX5 28 2 5 (none) := ⟨5, 16, RX5, TX5, _, rfl, rfl, by decide, rfl, inU5, wsu_of 162 (by decide +kernel) rfl⟩
theorem fp_X5_28 : FP RX5 28 2 5 .int := ⟨5, 16, RX5, TX5, _, tyX5, rfl, rfl, by decide, rfl, inU5, wsu_of 162 (by decide +kernel) rfl, tyX5_ok, nmX5, rfl, by decide +kernel⟩
theorem fg_X6_248 : FG RX6 248 2 5 (none) := ⟨5, 16, RX5, TX5, _, rfl, rfl, by decide, rfl, inU5, wsu_of 163 (by decide +kernel) rfl⟩
theorem fp_X6_248 : FP RX6 248 2 5 .int := ⟨5, 16, RX5, TX5, _, tyX5, rfl, rfl, by decide, rfl, inU5, wsu_of 163 (by decide +kernel) rfl, tyX5_ok, nmX5, rfl, by decide +kernel⟩
theorem fg_X5_32 : FG RX5 32 2 6 (none) := ⟨5, 16, RX5, TX5, _, rfl, rfl, by decide, rfl, inU5, wsu_of 164 (by decide +kernel) rfl⟩
theorem fp_X5_32 : FP RX5 32 2 6 .int := ⟨5, 16, RX5, TX5, _, tyX5, rfl, rfl, by decide, rfl, inU5, wsu_of 164 (by decide +kernel) rfl, tyX5_ok, nmX5, rfl, by decide +kernel⟩
theorem fg_X6_84 : FG RX6 84 2 6 (none) := ⟨5, 16, RX5, TX5, _, rfl, rfl, by decide, rfl, inU5, wsu_of 165 (by decide +kernel) rfl⟩
theorem fp_X6_84 : FP RX6 84 2 6 .int := ⟨5, 16, RX5, TX5, _, tyX5, rfl, rfl, by decide, rfl, inU5, wsu_of 165 (by decide +kernel) rfl, tyX5_ok, nmX5, rfl, by decide +kernel⟩
theorem fg_X5_35 : FG RX5 35 2 7 (none) := ⟨5, 16, RX5, TX5, _, rfl, rfl, by decide, rfl, inU5, wsu_of 166 (by decide +kernel) rfl⟩
theorem fp_X5_35 : FP RX5 35 2 7 .int := ⟨5, 16, RX5, TX5, _, tyX5, rfl, rfl, by decide, rfl, inU5, wsu_of 166 (by decide +kernel) rfl, tyX5_ok, nmX5, rfl, by decide +kernel⟩
theorem fg_X6_181 : FG RX6 181 2 7 (none) := ⟨5, 16, RX5, TX5, _, rfl, rfl, by decide, rfl, inU5, wsu_of 167 (by decide +kernel) rfl⟩
theorem fp_X6_181 : FP RX6 181 2 7 .int := ⟨5, 16, RX5, TX5, _, tyX5, rfl, rfl, by decide, rfl, inU5, wsu_of 167 (by decide +kernel) rfl, tyX5_ok, nmX5, rfl, by decide +kernel⟩
theorem fg_X5_38 : FG RX5 38 2 8 (none) := ⟨5, 16, RX5, TX5, _, rfl, rfl, by decide, rfl, inU5, wsu_of 168 (by decide +kernel) rfl⟩
theorem fp_X5_38 : FP RX5 38 2 8 .int := ⟨5, 16, RX5, TX5, _, tyX5, rfl, rfl, by decide, rfl, inU5, wsu_of 168 (by decide +kernel) rfl, tyX5_ok, nmX5, rfl, by decide +kernel⟩
theorem fg_X6_337 : FG RX6 337 2 8 (none) := ⟨5, 16, RX5, TX5, _, rfl, rfl, by decide, rfl, inU5, wsu_of 169 (by decide +kernel) rfl⟩
theorem fp_X6_337 : FP RX6 337 2 8 .int := ⟨5, 16, RX5, TX5, _, tyX5, rfl, rfl, by decide, rfl, inU5, wsu_of 169 (by decide +kernel) rfl, tyX5_ok, nmX5, rfl, by decide +kernel⟩
theorem fg_X5_41 : FG RX5 41 2 9 (none) := ⟨5, 16, RX5, TX5, _, rfl, rfl, by decide, rfl, inU5, wsu_of 170 (by decide +kernel) rfl⟩
theorem fp_X5_41 : FP RX5 41 2 9 .int := ⟨5, 16, RX5, TX5, _, tyX5, rfl, rfl, by decide, rfl, inU5, wsu_of 170 (by decide +kernel) rfl, tyX5_ok, nmX5, rfl, by decide +kernel⟩
theorem fg_X6_168 : FG RX6 168 2 9 (none) := ⟨5, 16, RX5, TX5, _, rfl, rfl, by decide, rfl, inU5, wsu_of 171 (by decide +kernel) rfl⟩
theorem fp_X6_168 : FP RX6 168 2 9 .int := ⟨5, 16, RX5, TX5, _, tyX5, rfl, rfl, by decide, rfl, inU5, wsu_of 171 (by decide +kernel) rfl, tyX5_ok, nmX5, rfl, by decide +kernel⟩
theorem fg_X5_44 : FG RX5 44 2 10 (none) := ⟨5, 16, RX5, TX5, _, rfl, rfl, by decide, rfl, inU5, wsu_of 172 (by decide +kernel) rfl⟩
theorem fp_X5_44 : FP RX5 44 2 10 .int := ⟨5, 16, RX5, TX5, _, tyX5, rfl, rfl, by decide, rfl, inU5, wsu_of 172 (by decide +kernel) rfl, tyX5_ok, nmX5, rfl, by decide +kernel⟩
theorem fg_X6_151 : FG RX6 151 2 10 (none) := ⟨5, 16, RX5, TX5, _, rfl, rfl, by decide, rfl, inU5, wsu_of 173 (by decide +kernel) rfl⟩
theorem fp_X6_151 : FP RX6 151 2 10 .int := ⟨5, 16, RX5, TX5, _, tyX5, rfl, rfl, by decide, rfl, inU5, wsu_of 173 (by decide +kernel) rfl, tyX5_ok, nmX5, rfl, by decide +kernel⟩
theorem fg_X5_47 : FG RX5 47 2 11 (none) := ⟨5, 16, RX5, TX5, _, rfl, rfl, by decide, rfl, inU5, wsu_of 174 (by decide +kernel) rfl⟩
theorem fp_X5_47 : FP RX5 47 2 11 .int := ⟨5, 16, RX5, TX5, _, tyX5, rfl, rfl, by decide, rfl, inU5, wsu_of 174 (by decide +kernel) rfl, tyX5_ok, nmX5, rfl, by decide +kernel⟩
theorem fg_X6_191 : FG RX6 191 2 11 (none) := ⟨5, 16, RX5, TX5, _, rfl, rfl, by decide, rfl, inU5, wsu_of 175 (by decide +kernel) rfl⟩
theorem fp_X6_191 : FP RX6 191 2 11 .int := ⟨5, 16, RX5, TX5, _, tyX5, rfl, rfl, by decide, rfl, inU5, wsu_of 175 (by decide +kernel) rfl, tyX5_ok, nmX5, rfl, by decide +kernel⟩
theorem fg_X5_50 : FG RX5 50 2 12 (none) := ⟨5, 16, RX5, TX5, _, rfl, rfl, by decide, rfl, inU5, wsu_of 176 (by decide +kernel) rfl⟩
theorem fp_X5_50 : FP RX5 50 2 12 .int := ⟨5, 16, RX5, TX5, _, tyX5, rfl, rfl, by decide, rfl, inU5, wsu_of 176 (by decide +kernel) rfl, tyX5_ok, nmX5, rfl, by decide +kernel⟩
theorem fg_X6_194 : FG RX6 194 2 12 (none) := ⟨5, 16, RX5, TX5, _, rfl, rfl, by decide, rfl, inU5, wsu_of 177 (by decide +kernel) rfl⟩
theorem fp_X6_194 : FP RX6 194 2 12 .int := ⟨5, 16, RX5, TX5, _, tyX5, rfl, rfl, by decide, rfl, inU5, wsu_of 177 (by decide +kernel) rfl, tyX5_ok, nmX5, rfl, by decide +kernel⟩
theorem fg_X5_53 : FG RX5 53 2 13 (none) := ⟨5, 16, RX5, TX5, _, rfl, rfl, by decide, rfl, inU5, wsu_of 178 (by decide +kernel) rfl⟩
theorem fp_X5_53 : FP RX5 53 2 13 .int := ⟨5, 16, RX5, TX5, _, tyX5, rfl, rfl, by decide, rfl, inU5, wsu_of 178 (by decide +kernel) rfl, tyX5_ok, nmX5, rfl, by decide +kernel⟩
theorem fg_X6_197 : FG RX6 197 2 13 (none) := ⟨5, 16, RX5, TX5, _, rfl, rfl, by decide, rfl, inU5, wsu_of 179 (by decide +kernel) rfl⟩
theorem fp_X6_197 : FP RX6 197 2 13 .int := ⟨5, 16, RX5, TX5, _, tyX5, rfl, rfl, by decide, rfl, inU5, wsu_of 179 (by decide +kernel) rfl, tyX5_ok, nmX5, rfl, by decide +kernel⟩
theorem fg_X5_56 : FG RX5 56 2 14 (none) := ⟨5, 16, RX5, TX5, _, rfl, rfl, by decide, rfl, inU5, wsu_of 180 (by decide +kernel) rfl⟩
theorem fp_X5_56 : FP RX5 56 2 14 .int := ⟨5, 16, RX5, TX5, _, tyX5, rfl, rfl, by decide, rfl, inU5, wsu_of 180 (by decide +kernel) rfl, tyX5_ok, nmX5, rfl, by decide +kernel⟩
theorem fg_X6_159 : FG RX6 159 2 14 (none) := ⟨5, 16, RX5, TX5, _, rfl, rfl, by decide, rfl, inU5, wsu_of 181 (by decide +kernel) rfl⟩
theorem fp_X6_159 : FP RX6 159 2 14 .int := ⟨5, 16, RX5, TX5, _, tyX5, rfl, rfl, by decide, rfl, inU5, wsu_of 181 (by decide +kernel) rfl, tyX5_ok, nmX5, rfl, by decide +kernel⟩
theorem fg_X5_59 : FG RX5 59 2 15 (none) := ⟨5, 16, RX5, TX5, _, rfl, rfl, by decide, rfl, inU5, wsu_of 182 (by decide +kernel) rfl⟩
theorem fp_X5_59 : FP RX5 59 2 15 .int := ⟨5, 16, RX5, TX5, _, tyX5, rfl, rfl, by decide, rfl, inU5, wsu_of 182 (by decide +kernel) rfl, tyX5_ok, nmX5, rfl, by decide +kernel⟩
theorem fg_X6_162 : FG RX6 162 2 15 (none) := ⟨5, 16, RX5, TX5, _, rfl, rfl, by decide, rfl, inU5, wsu_of 183 (by decide +kernel) rfl⟩
theorem fp_X6_162 : FP RX6 162 2 15 .int := ⟨5, 16, RX5, TX5, _, tyX5, rfl, rfl, by decide, rfl, inU5, wsu_of 183 (by decide +kernel) rfl, tyX5_ok, nmX5, rfl, by decide +kernel⟩
theorem fg_X1_15 : FG RX1 15 6 0 (some (17, fun _ => 0)) := ⟨1, 9, RX1, TX1, _, rfl, rfl, by decide, rfl, inU1, wsu_of 223 (by decide +kernel) rfl⟩
theorem fg_X1_9 : FG RX1 9 6 1 (some (18, fun _ => 0)) := ⟨1, 9, RX1, TX1, _, rfl, rfl, by decide, rfl, inU1, wsu_of 224 (by decide +kernel) rfl⟩
theorem fg_X0_40 : FG RX0 40 6 1 (some (18, fun _ => 0)) := ⟨1, 9, RX1, TX1, _, rfl, rfl, by decide, rfl, inU1, wsu_of 225 (by decide +kernel) rfl⟩
theorem fg_X1_22 : FG RX1 22 6 2 (none) := ⟨1, 9, RX1, TX1, _, rfl, rfl, by decide, rfl, inU1, wsu_of 226 (by decide +kernel) rfl⟩
theorem fp_X1_22 : FP RX1 22 6 2 .int := ⟨1, 9, RX1, TX1, _, tyX1, rfl, rfl, by decide, rfl, inU1, wsu_of 226 (by decide +kernel) rfl, tyX1_ok, nmX1, rfl, by decide +kernel⟩
theorem fg_X0_37 : FG RX0 37 6 2 (none) := ⟨1, 9, RX1, TX1, _, rfl, rfl, by decide, rfl, inU1, wsu_of 227 (by decide +kernel) rfl⟩
theorem fp_X0_37 : FP RX0 37 6 2 .int := ⟨1, 9, RX1, TX1, _, tyX1, rfl, rfl, by decide, rfl, inU1, wsu_of 227 (by decide +kernel) rfl, tyX1_ok, nmX1, rfl, by decide +kernel⟩
theorem fg_X0_29 : FG RX0 29 6 3 (none) := ⟨1, 9, RX1, TX1, _, rfl, rfl, by decide, rfl, inU1, wsu_of 228 (by decide +kernel) rfl⟩
theorem fp_X0_29 : FP RX0 29 6 3 .int := ⟨1, 9, RX1, TX1, _, tyX1, rfl, rfl, by decide, rfl, inU1, wsu_of 228 (by decide +kernel) rfl, tyX1_ok, nmX1, rfl, by decide +kernel⟩
theorem fg_X1_53 : FG RX1 53 6 3 (none) := ⟨1, 9, RX1, TX1, _, rfl, rfl, by decide, rfl, inU1, wsu_of 229 (by decide +kernel) rfl⟩
theorem fp_X1_53 : FP RX1 53 6 3 .int := ⟨1, 9, RX1, TX1, _, tyX1, rfl, rfl, by decide, rfl, inU1, wsu_of 229 (by decide +kernel) rfl, tyX1_ok, nmX1, rfl, by decide +kernel⟩
theorem fg_X6_258 : FG RX6 258 6 3 (none) := ⟨1, 9, RX1, TX1, _, rfl, rfl, by decide, rfl, inU1, wsu_of 230 (by decide +kernel) rfl⟩
theorem fp_X6_258 : FP RX6 258 6 3 .int := ⟨1, 9, RX1, TX1, _, tyX1, rfl, rfl, by decide, rfl, inU1, wsu_of 230 (by decide +kernel) rfl, tyX1_ok, nmX1, rfl, by decide +kernel⟩
theorem fg_X1_25 : FG RX1 25 6 4 (none) := ⟨1, 9, RX1, TX1, _, rfl, rfl, by decide, rfl, inU1, wsu_of 231 (by decide +kernel) rfl⟩
theorem fp_X1_25 : FP RX1 25 6 4 .int := ⟨1, 9, RX1, TX1, _, tyX1, rfl, rfl, by decide, rfl, inU1, wsu_of 231 (by decide +kernel) rfl, tyX1_ok, nmX1, rfl, by decide +kernel⟩
theorem fg_X0_35 : FG RX0 35 6 4 (none) := ⟨1, 9, RX1, TX1, _, rfl, rfl, by decide, rfl, inU1, wsu_of 232 (by decide +kernel) rfl⟩
theorem fp_X0_35 : FP RX0 35 6 4 .int := ⟨1, 9, RX1, TX1, _, tyX1, rfl, rfl, by decide, rfl, inU1, wsu_of 232 (by decide +kernel) rfl, tyX1_ok, nmX1, rfl, by decide +kernel⟩
theorem fg_X1_64 : FG RX1 64 6 5 (none) := ⟨1, 9, RX1, TX1, _, rfl, rfl, by decide, rfl, inU1, wsu_of 233 (by decide +kernel) rfl⟩
theorem fp_X1_64 : FP RX1 64 6 5 .int := ⟨1, 9, RX1, TX1, _, tyX1, rfl, rfl, by decide, rfl, inU1, wsu_of 233 (by decide +kernel) rfl, tyX1_ok, nmX1, rfl, by decide +kernel⟩
theorem fg_X6_245 : FG RX6 245 6 5 (none) := ⟨1, 9, RX1, TX1, _, rfl, rfl, by decide, rfl, inU1, wsu_of 234 (by decide +kernel) rfl⟩
theorem fp_X6_245 : FP RX6 245 6 5 .int := ⟨1, 9, RX1, TX1, _, tyX1, rfl, rfl, by decide, rfl, inU1, wsu_of 234 (by decide +kernel) rfl, tyX1_ok, nmX1, rfl, by decide +kernel⟩
theorem fg_X1_28 : FG RX1 28 6 6 (none) := ⟨1, 9, RX1, TX1, _, rfl, rfl, by decide, rfl, inU1, wsu_of 235 (by decide +kernel) rfl⟩
theorem fp_X1_28 : FP RX1 28 6 6 .int := ⟨1, 9, RX1, TX1, _, tyX1, rfl, rfl, by decide, rfl, inU1, wsu_of 235 (by decide +kernel) rfl, tyX1_ok, nmX1, rfl, by decide +kernel⟩
theorem fg_X1_31 : FG RX1 31 6 7 (none) := ⟨1, 9, RX1, TX1, _, rfl, rfl, by decide, rfl, inU1, wsu_of 236 (by decide +kernel) rfl⟩
theorem fp_X1_31 : FP RX1 31 6 7 .int := ⟨1, 9, RX1, TX1, _, tyX1, rfl, rfl, by decide, rfl, inU1, wsu_of 236 (by decide +kernel) rfl, tyX1_ok, nmX1, rfl, by decide +kernel⟩
theorem fg_X1_18 : FG RX1 18 6 8 (none) := ⟨1, 9, RX1, TX1, _, rfl, rfl, by decide, rfl, inU1, wsu_of 237 (by decide +kernel) rfl⟩
theorem fp_X1_18 : FP RX1 18 6 8 .int := ⟨1, 9, RX1, TX1, _, tyX1, rfl, rfl, by decide, rfl, inU1, wsu_of 237 (by decide +kernel) rfl, tyX1_ok, nmX1, rfl, by decide +kernel⟩
theorem fg_X3_9 : FG RX3 9 4 0 (none) := ⟨3, 3, RX3, TX3, _, rfl, rfl, by decide, rfl, inU3, wsu_of 266 (by decide +kernel) rfl⟩
theorem fp_X3_9 : FP RX3 9 4 0 .int := ⟨3, 3, RX3, TX3, _, tyX3, rfl, rfl, by decide, rfl, inU3, wsu_of 266 (by decide +kernel) rfl, tyX3_ok, nmX3, rfl, by decide +kernel⟩
theorem fg_X6_278 : FG RX6 278 4 0 (none) := ⟨3, 3, RX3, TX3, _, rfl, rfl, by decide, rfl, inU3, wsu_of 267 (by decide +kernel) rfl⟩
theorem fp_X6_278 : FP RX6 278 4 0 .int := ⟨3, 3, RX3, TX3, _, tyX3, rfl, rfl, by decide, rfl, inU3, wsu_of 267 (by decide +kernel) rfl, tyX3_ok, nmX3, rfl, by decide +kernel⟩
theorem fg_X3_15 : FG RX3 15 4 1 (none) := ⟨3, 3, RX3, TX3, _, rfl, rfl, by decide, rfl, inU3, wsu_of 268 (by decide +kernel) rfl⟩
theorem fp_X3_15 : FP RX3 15 4 1 .int := ⟨3, 3, RX3, TX3, _, tyX3, rfl, rfl, by decide, rfl, inU3, wsu_of 268 (by decide +kernel) rfl, tyX3_ok, nmX3, rfl, by decide +kernel⟩
theorem fg_X6_285 : FG RX6 285 4 1 (none) := ⟨3, 3, RX3, TX3, _, rfl, rfl, by decide, rfl, inU3, wsu_of 269 (by decide +kernel) rfl⟩
theorem fp_X6_285 : FP RX6 285 4 1 .int := ⟨3, 3, RX3, TX3, _, tyX3, rfl, rfl, by decide, rfl, inU3, wsu_of 269 (by decide +kernel) rfl, tyX3_ok, nmX3, rfl, by decide +kernel⟩
theorem fg_X3_18 : FG RX3 18 4 2 (some (23, fun i => i)) := ⟨3, 3, RX3, TX3, _, rfl, rfl, by decide, rfl, inU3, wsu_of 270 (by decide +kernel) rfl⟩
theorem fg_X6_291 : FG RX6 291 4 2 (some (23, fun i => i)) := ⟨3, 3, RX3, TX3, _, rfl, rfl, by decide, rfl, inU3, wsu_of 271 (by decide +kernel) rfl⟩
theorem fg_X4_9 : FG RX4 9 5 0 (none) := ⟨4, 4, RX4, TX4, _, rfl, rfl, by decide, rfl, inU4, wsu_of 288 (by decide +kernel) rfl⟩
theorem fp_X4_9 : FP RX4 9 5 0 .int := ⟨4, 4, RX4, TX4, _, tyX4, rfl, rfl, by decide, rfl, inU4, wsu_of 288 (by decide +kernel) rfl, tyX4_ok, nmX4, rfl, by decide +kernel⟩
theorem fg_X6_307 : FG RX6 307 5 0 (none) := ⟨4, 4, RX4, TX4, _, rfl, rfl, by decide, rfl, inU4, wsu_of 289 (by decide +kernel) rfl⟩
theorem fp_X6_307 : FP RX6 307 5 0 .int := ⟨4, 4, RX4, TX4, _, tyX4, rfl, rfl, by decide, rfl, inU4, wsu_of 289 (by decide +kernel) rfl, tyX4_ok, nmX4, rfl, by decide +kernel⟩
theorem fg_X4_15 : FG RX4 15 5 1 (none) := ⟨4, 4, RX4, TX4, _, rfl, rfl, by decide, rfl, inU4, wsu_of 290 (by decide +kernel) rfl⟩
theorem fp_X4_15 : FP RX4 15 5 1 .int := ⟨4, 4, RX4, TX4, _, tyX4, rfl, rfl, by decide, rfl, inU4, wsu_of 290 (by decide +kernel) rfl, tyX4_ok, nmX4, rfl, by decide +kernel⟩
theorem fg_X6_324 : FG RX6 324 5 1 (none) := ⟨4, 4, RX4, TX4, _, rfl, rfl, by decide, rfl, inU4, wsu_of 291 (by decide +kernel) rfl⟩
theorem fp_X6_324 : FP RX6 324 5 1 .int := ⟨4, 4, RX4, TX4, _, tyX4, rfl, rfl, by decide, rfl, inU4, wsu_of 291 (by decide +kernel) rfl, tyX4_ok, nmX4, rfl, by decide +kernel⟩
theorem fg_X4_21 : FG RX4 21 5 2 (some (3, fun i => 24 + i)) := ⟨4, 4, RX4, TX4, _, rfl, rfl, by decide, rfl, inU4, wsu_of 292 (by decide +kernel) rfl⟩
theorem fg_X6_310 : FG RX6 310 5 2 (some (3, fun i => 24 + i)) := ⟨4, 4, RX4, TX4, _, rfl, rfl, by decide, rfl, inU4, wsu_of 293 (by decide +kernel) rfl⟩
theorem fg_X4_28 : FG RX4 28 5 3 (some (4, fun i => 4 + i)) := ⟨4, 4, RX4, TX4, _, rfl, rfl, by decide, rfl, inU4, wsu_of 294 (by decide +kernel) rfl⟩
theorem fg_X6_317 : FG RX6 317 5 3 (some (4, fun i => 4 + i)) := ⟨4, 4, RX4, TX4, _, rfl, rfl, by decide, rfl, inU4, wsu_of 295 (by decide +kernel) rfl⟩
theorem fg_X6_10 : FG RX6 10 0 0 (some (1, fun _ => 0)) := ⟨6, 13, RX6, TX6, _, rfl, rfl, by decide, rfl, inU6, wsu_of 305 (by decide +kernel) rfl⟩
theorem fg_X6_21 : FG RX6 21 0 1 (some (2, fun _ => 0)) := ⟨6, 13, RX6, TX6, _, rfl, rfl, by decide, rfl, inU6, wsu_of 306 (by decide +kernel) rfl⟩
theorem fg_X6_25 : FG RX6 25 0 2 (some (2, fun _ => 1)) := ⟨6, 13, RX6, TX6, _, rfl, rfl, by decide, rfl, inU6, wsu_of 307 (by decide +kernel) rfl⟩
theorem fg_X6_28 : FG RX6 28 0 3 (some (2, fun _ => 2)) := ⟨6, 13, RX6, TX6, _, rfl, rfl, by decide, rfl, inU6, wsu_of 308 (by decide +kernel) rfl⟩
theorem fg_X6_31 : FG RX6 31 0 4 (none) := ⟨6, 13, RX6, TX6, _, rfl, rfl, by decide, rfl, inU6, wsu_of 309 (by decide +kernel) rfl⟩
theorem fp_X6_31 : FP RX6 31 0 4 .boolean := ⟨6, 13, RX6, TX6, _, tyX6, rfl, rfl, by decide, rfl, inU6, wsu_of 309 (by decide +kernel) rfl, tyX6_ok, nmX6, rfl, by decide +kernel⟩
theorem fg_X6_35 : FG RX6 35 0 5 (some (17, fun _ => 0)) := ⟨6, 13, RX6, TX6, _, rfl, rfl, by decide, rfl, inU6, wsu_of 310 (by decide +kernel) rfl⟩
theorem fg_X6_39 : FG RX6 39 0 6 (none) := ⟨6, 13, RX6, TX6, _, rfl, rfl, by decide, rfl, inU6, wsu_of 311 (by decide +kernel) rfl⟩
theorem fp_X6_39 : FP RX6 39 0 6 .int := ⟨6, 13, RX6, TX6, _, tyX6, rfl, rfl, by decide, rfl, inU6, wsu_of 311 (by decide +kernel) rfl, tyX6_ok, nmX6, rfl, by decide +kernel⟩
theorem fg_X6_48 : FG RX6 48 0 7 (some (6, fun _ => 0)) := ⟨6, 13, RX6, TX6, _, rfl, rfl, by decide, rfl, inU6, wsu_of 312 (by decide +kernel) rfl⟩
theorem fg_X6_54 : FG RX6 54 0 8 (some (19, fun _ => 0)) := ⟨6, 13, RX6, TX6, _, rfl, rfl, by decide, rfl, inU6, wsu_of 313 (by decide +kernel) rfl⟩
theorem fg_X6_60 : FG RX6 60 0 9 (some (20, fun _ => 0)) := ⟨6, 13, RX6, TX6, _, rfl, rfl, by decide, rfl, inU6, wsu_of 314 (by decide +kernel) rfl⟩
theorem fg_X6_64 : FG RX6 64 0 10 (some (21, fun _ => 0)) := ⟨6, 13, RX6, TX6, _, rfl, rfl, by decide, rfl, inU6, wsu_of 315 (by decide +kernel) rfl⟩
theorem fg_X6_67 : FG RX6 67 0 11 (none) := ⟨6, 13, RX6, TX6, _, rfl, rfl, by decide, rfl, inU6, wsu_of 316 (by decide +kernel) rfl⟩
theorem fp_X6_67 : FP RX6 67 0 11 .int := ⟨6, 13, RX6, TX6, _, tyX6, rfl, rfl, by decide, rfl, inU6, wsu_of 316 (by decide +kernel) rfl, tyX6_ok, nmX6, rfl, by decide +kernel⟩
theorem fg_X6_70 : FG RX6 70 0 12 (some (22, fun _ => 0)) := ⟨6, 13, RX6, TX6, _, rfl, rfl, by decide, rfl, inU6, wsu_of 317 (by decide +kernel) rfl⟩
theorem fg_X7_9 : FG RX7 9 24 0 (some (25, fun _ => 0)) := ⟨7, 33, RX7, TX7, _, rfl, rfl, by decide, rfl, inU7, wsu_of 923 (by decide +kernel) rfl⟩
theorem fg_X7_13 : FG RX7 13 24 1 (some (26, fun _ => 0)) := ⟨7, 33, RX7, TX7, _, rfl, rfl, by decide, rfl, inU7, wsu_of 924 (by decide +kernel) rfl⟩
theorem fg_X7_16 : FG RX7 16 24 2 (some (27, fun _ => 0)) := ⟨7, 33, RX7, TX7, _, rfl, rfl, by decide, rfl, inU7, wsu_of 925 (by decide +kernel) rfl⟩
theorem fg_X7_264 : FG RX7 264 24 3 (none) := ⟨7, 33, RX7, TX7, _, rfl, rfl, by decide, rfl, inU7, wsu_of 926 (by decide +kernel) rfl⟩
theorem fp_X7_264 : FP RX7 264 24 3 .boolean := ⟨7, 33, RX7, TX7, _, tyX7, rfl, rfl, by decide, rfl, inU7, wsu_of 926 (by decide +kernel) rfl, tyX7_ok, nmX7, rfl, by decide +kernel⟩
theorem fg_X7_19 : FG RX7 19 24 4 (some (28, fun _ => 0)) := ⟨7, 33, RX7, TX7, _, rfl, rfl, by decide, rfl, inU7, wsu_of 927 (by decide +kernel) rfl⟩
theorem fg_X7_22 : FG RX7 22 24 5 (some (29, fun _ => 0)) := ⟨7, 33, RX7, TX7, _, rfl, rfl, by decide, rfl, inU7, wsu_of 928 (by decide +kernel) rfl⟩
theorem fg_X7_185 : FG RX7 185 24 6 (none) := ⟨7, 33, RX7, TX7, _, rfl, rfl, by decide, rfl, inU7, wsu_of 929 (by decide +kernel) rfl⟩
theorem fp_X7_185 : FP RX7 185 24 6 .int := ⟨7, 33, RX7, TX7, _, tyX7, rfl, rfl, by decide, rfl, inU7, wsu_of 929 (by decide +kernel) rfl, tyX7_ok, nmX7, rfl, by decide +kernel⟩
theorem fg_X7_189 : FG RX7 189 24 7 (none) := ⟨7, 33, RX7, TX7, _, rfl, rfl, by decide, rfl, inU7, wsu_of 930 (by decide +kernel) rfl⟩
theorem fp_X7_189 : FP RX7 189 24 7 .int := ⟨7, 33, RX7, TX7, _, tyX7, rfl, rfl, by decide, rfl, inU7, wsu_of 930 (by decide +kernel) rfl, tyX7_ok, nmX7, rfl, by decide +kernel⟩
theorem fg_X7_192 : FG RX7 192 24 8 (none) := ⟨7, 33, RX7, TX7, _, rfl, rfl, by decide, rfl, inU7, wsu_of 931 (by decide +kernel) rfl⟩
theorem fp_X7_192 : FP RX7 192 24 8 .int := ⟨7, 33, RX7, TX7, _, tyX7, rfl, rfl, by decide, rfl, inU7, wsu_of 931 (by decide +kernel) rfl, tyX7_ok, nmX7, rfl, by decide +kernel⟩
theorem fg_X7_198 : FG RX7 198 24 9 (none) := ⟨7, 33, RX7, TX7, _, rfl, rfl, by decide, rfl, inU7, wsu_of 932 (by decide +kernel) rfl⟩
theorem fp_X7_198 : FP RX7 198 24 9 .int := ⟨7, 33, RX7, TX7, _, tyX7, rfl, rfl, by decide, rfl, inU7, wsu_of 932 (by decide +kernel) rfl, tyX7_ok, nmX7, rfl, by decide +kernel⟩
theorem fg_X7_204 : FG RX7 204 24 10 (none) := ⟨7, 33, RX7, TX7, _, rfl, rfl, by decide, rfl, inU7, wsu_of 933 (by decide +kernel) rfl⟩
theorem fp_X7_204 : FP RX7 204 24 10 .int := ⟨7, 33, RX7, TX7, _, tyX7, rfl, rfl, by decide, rfl, inU7, wsu_of 933 (by decide +kernel) rfl, tyX7_ok, nmX7, rfl, by decide +kernel⟩
theorem fg_X7_195 : FG RX7 195 24 11 (none) := ⟨7, 33, RX7, TX7, _, rfl, rfl, by decide, rfl, inU7, wsu_of 934 (by decide +kernel) rfl⟩
theorem fp_X7_195 : FP RX7 195 24 11 .int := ⟨7, 33, RX7, TX7, _, tyX7, rfl, rfl, by decide, rfl, inU7, wsu_of 934 (by decide +kernel) rfl, tyX7_ok, nmX7, rfl, by decide +kernel⟩
theorem fg_X7_210 : FG RX7 210 24 12 (none) := ⟨7, 33, RX7, TX7, _, rfl, rfl, by decide, rfl, inU7, wsu_of 935 (by decide +kernel) rfl⟩
theorem fp_X7_210 : FP RX7 210 24 12 .int := ⟨7, 33, RX7, TX7, _, tyX7, rfl, rfl, by decide, rfl, inU7, wsu_of 935 (by decide +kernel) rfl, tyX7_ok, nmX7, rfl, by decide +kernel⟩
theorem fg_X7_25 : FG RX7 25 24 13 (some (30, fun _ => 0)) := ⟨7, 33, RX7, TX7, _, rfl, rfl, by decide, rfl, inU7, wsu_of 936 (by decide +kernel) rfl⟩
theorem fg_X7_29 : FG RX7 29 24 14 (some (31, fun _ => 0)) := ⟨7, 33, RX7, TX7, _, rfl, rfl, by decide, rfl, inU7, wsu_of 937 (by decide +kernel) rfl⟩
theorem fg_X7_32 : FG RX7 32 24 15 (some (32, fun _ => 0)) := ⟨7, 33, RX7, TX7, _, rfl, rfl, by decide, rfl, inU7, wsu_of 938 (by decide +kernel) rfl⟩
theorem fg_X7_222 : FG RX7 222 24 16 (none) := ⟨7, 33, RX7, TX7, _, rfl, rfl, by decide, rfl, inU7, wsu_of 939 (by decide +kernel) rfl⟩
theorem fp_X7_222 : FP RX7 222 24 16 .int := ⟨7, 33, RX7, TX7, _, tyX7, rfl, rfl, by decide, rfl, inU7, wsu_of 939 (by decide +kernel) rfl, tyX7_ok, nmX7, rfl, by decide +kernel⟩
theorem fg_X7_228 : FG RX7 228 24 17 (none) := ⟨7, 33, RX7, TX7, _, rfl, rfl, by decide, rfl, inU7, wsu_of 940 (by decide +kernel) rfl⟩
theorem fp_X7_228 : FP RX7 228 24 17 .int := ⟨7, 33, RX7, TX7, _, tyX7, rfl, rfl, by decide, rfl, inU7, wsu_of 940 (by decide +kernel) rfl, tyX7_ok, nmX7, rfl, by decide +kernel⟩
theorem fg_X7_35 : FG RX7 35 24 18 (some (33, fun _ => 0)) := ⟨7, 33, RX7, TX7, _, rfl, rfl, by decide, rfl, inU7, wsu_of 941 (by decide +kernel) rfl⟩
theorem fg_X7_216 : FG RX7 216 24 19 (none) := ⟨7, 33, RX7, TX7, _, rfl, rfl, by decide, rfl, inU7, wsu_of 942 (by decide +kernel) rfl⟩
theorem fp_X7_216 : FP RX7 216 24 19 .int := ⟨7, 33, RX7, TX7, _, tyX7, rfl, rfl, by decide, rfl, inU7, wsu_of 942 (by decide +kernel) rfl, tyX7_ok, nmX7, rfl, by decide +kernel⟩
theorem fg_X7_38 : FG RX7 38 24 20 (some (34, fun _ => 0)) := ⟨7, 33, RX7, TX7, _, rfl, rfl, by decide, rfl, inU7, wsu_of 943 (by decide +kernel) rfl⟩
theorem fg_X7_42 : FG RX7 42 24 21 (some (35, fun _ => 0)) := ⟨7, 33, RX7, TX7, _, rfl, rfl, by decide, rfl, inU7, wsu_of 944 (by decide +kernel) rfl⟩
theorem fg_X7_45 : FG RX7 45 24 22 (some (36, fun _ => 0)) := ⟨7, 33, RX7, TX7, _, rfl, rfl, by decide, rfl, inU7, wsu_of 945 (by decide +kernel) rfl⟩
theorem fg_X7_48 : FG RX7 48 24 23 (some (37, fun _ => 0)) := ⟨7, 33, RX7, TX7, _, rfl, rfl, by decide, rfl, inU7, wsu_of 946 (by decide +kernel) rfl⟩
theorem fg_X7_51 : FG RX7 51 24 24 (some (38, fun _ => 0)) := ⟨7, 33, RX7, TX7, _, rfl, rfl, by decide, rfl, inU7, wsu_of 947 (by decide +kernel) rfl⟩
theorem fg_X7_54 : FG RX7 54 24 25 (some (39, fun _ => 0)) := ⟨7, 33, RX7, TX7, _, rfl, rfl, by decide, rfl, inU7, wsu_of 948 (by decide +kernel) rfl⟩
theorem fg_X7_57 : FG RX7 57 24 26 (some (40, fun _ => 0)) := ⟨7, 33, RX7, TX7, _, rfl, rfl, by decide, rfl, inU7, wsu_of 949 (by decide +kernel) rfl⟩
theorem fg_X7_60 : FG RX7 60 24 27 (some (41, fun _ => 0)) := ⟨7, 33, RX7, TX7, _, rfl, rfl, by decide, rfl, inU7, wsu_of 950 (by decide +kernel) rfl⟩
theorem fg_X7_63 : FG RX7 63 24 28 (some (42, fun _ => 0)) := ⟨7, 33, RX7, TX7, _, rfl, rfl, by decide, rfl, inU7, wsu_of 951 (by decide +kernel) rfl⟩
theorem fg_X7_66 : FG RX7 66 24 29 (some (43, fun _ => 0)) := ⟨7, 33, RX7, TX7, _, rfl, rfl, by decide, rfl, inU7, wsu_of 952 (by decide +kernel) rfl⟩
theorem fg_X7_69 : FG RX7 69 24 30 (some (44, fun _ => 0)) := ⟨7, 33, RX7, TX7, _, rfl, rfl, by decide, rfl, inU7, wsu_of 953 (by decide +kernel) rfl⟩
theorem fg_X7_72 : FG RX7 72 24 31 (some (45, fun _ => 0)) := ⟨7, 33, RX7, TX7, _, rfl, rfl, by decide, rfl, inU7, wsu_of 954 (by decide +kernel) rfl⟩
theorem fg_X7_261 : FG RX7 261 24 32 (none) := ⟨7, 33, RX7, TX7, _, rfl, rfl, by decide, rfl, inU7, wsu_of 955 (by decide +kernel) rfl⟩
theorem fp_X7_261 : FP RX7 261 24 32 .int := ⟨7, 33, RX7, TX7, _, tyX7, rfl, rfl, by decide, rfl, inU7, wsu_of 955 (by decide +kernel) rfl, tyX7_ok, nmX7, rfl, by decide +kernel⟩
theorem ml_L_9 : Cond.methodLink RL 9 yX6_init ∈ WSU := wsu_of 76 (by decide +kernel) rfl
theorem ml_X6_18 : Cond.methodLink RX6 18 yX5_init ∈ WSU := wsu_of 111 (by decide +kernel) rfl
theorem ml_X6_45 : Cond.methodLink RX6 45 yX1_init ∈ WSU := wsu_of 219 (by decide +kernel) rfl
theorem ml_L_13 : Cond.methodLink RL 13 yX6_roof ∈ WSU := wsu_of 345 (by decide +kernel) rfl
theorem ml_X6_75 : Cond.methodLink RX6 75 yX6_isKind ∈ WSU := wsu_of 349 (by decide +kernel) rfl
theorem ml_X6_79 : Cond.methodLink RX6 79 yX6_isWithin ∈ WSU := wsu_of 352 (by decide +kernel) rfl
theorem ml_X6_88 : Cond.methodLink RX6 88 yX5_addRoof ∈ WSU := wsu_of 357 (by decide +kernel) rfl
theorem ml_X5_77 : Cond.methodLink RX5 77 yX2_begin ∈ WSU := wsu_of 361 (by decide +kernel) rfl
theorem ml_L_18 : Cond.methodLink RL 18 yX6_told ∈ WSU := wsu_of 365 (by decide +kernel) rfl
theorem ml_X6_92 : Cond.methodLink RX6 92 yX6_isRoof ∈ WSU := wsu_of 369 (by decide +kernel) rfl
theorem ml_X6_119 : Cond.methodLink RX6 119 yX5_warmth ∈ WSU := wsu_of 373 (by decide +kernel) rfl
theorem ml_X5_82 : Cond.methodLink RX5 82 yX5_hourOfDay ∈ WSU := wsu_of 377 (by decide +kernel) rfl
theorem ml_X6_123 : Cond.methodLink RX6 123 yX5_melts ∈ WSU := wsu_of 381 (by decide +kernel) rfl
theorem ml_X5_89 : Cond.methodLink RX5 89 yX5_warmth ∈ WSU := wsu_of 385 (by decide +kernel) rfl
theorem ml_X5_99 : Cond.methodLink RX5 99 yX0_give ∈ WSU := wsu_of 386 (by decide +kernel) rfl
theorem ml_X0_48 : Cond.methodLink RX0 48 yX0_joined ∈ WSU := wsu_of 390 (by decide +kernel) rfl
theorem ml_X5_105 : Cond.methodLink RX5 105 yJ9_min_7cf53 ∈ WSU := wsu_of 393 (by decide +kernel) rfl
theorem ml_X5_111 : Cond.methodLink RX5 111 yJ9_max_7cf53 ∈ WSU := wsu_of 396 (by decide +kernel) rfl
theorem ml_X6_126 : Cond.methodLink RX6 126 yX2_bears ∈ WSU := wsu_of 399 (by decide +kernel) rfl
theorem ml_X2_34 : Cond.methodLink RX2 34 yX2_isOf ∈ WSU := wsu_of 403 (by decide +kernel) rfl
theorem ml_X6_130 : Cond.methodLink RX6 130 yX5_owns ∈ WSU := wsu_of 409 (by decide +kernel) rfl
theorem ml_X6_134 : Cond.methodLink RX6 134 yX2_worth ∈ WSU := wsu_of 413 (by decide +kernel) rfl
theorem ml_L_22 : Cond.methodLink RL 22 yX6_as ∈ WSU := wsu_of 417 (by decide +kernel) rfl
theorem ml_X6_137 : Cond.methodLink RX6 137 yX2_isOf ∈ WSU := wsu_of 421 (by decide +kernel) rfl
theorem ml_L_26 : Cond.methodLink RL 26 yX6_turns ∈ WSU := wsu_of 423 (by decide +kernel) rfl
theorem ml_L_30 : Cond.methodLink RL 30 yX6_set ∈ WSU := wsu_of 427 (by decide +kernel) rfl
theorem ml_X6_141 : Cond.methodLink RX6 141 yX6_changeSize ∈ WSU := wsu_of 431 (by decide +kernel) rfl
theorem ml_X6_145 : Cond.methodLink RX6 145 yX6_changeHeat ∈ WSU := wsu_of 434 (by decide +kernel) rfl
theorem ml_X6_148 : Cond.methodLink RX6 148 yX6_changeRoom ∈ WSU := wsu_of 437 (by decide +kernel) rfl
theorem ml_X6_343 : Cond.methodLink RX6 343 yX2_takeWater ∈ WSU := wsu_of 441 (by decide +kernel) rfl
theorem ml_X2_38 : Cond.methodLink RX2 38 yJ9_max_7cf53 ∈ WSU := wsu_of 445 (by decide +kernel) rfl
theorem ml_L_35 : Cond.methodLink RL 35 yX6_sweep ∈ WSU := wsu_of 446 (by decide +kernel) rfl
theorem ml_X6_154 : Cond.methodLink RX6 154 yJ9_min_7cf53 ∈ WSU := wsu_of 450 (by decide +kernel) rfl
theorem ml_L_39 : Cond.methodLink RL 39 yX6_use ∈ WSU := wsu_of 451 (by decide +kernel) rfl
theorem ml_L_43 : Cond.methodLink RL 43 yX6_deal ∈ WSU := wsu_of 455 (by decide +kernel) rfl
theorem ml_X6_165 : Cond.methodLink RX6 165 yX5_draw ∈ WSU := wsu_of 459 (by decide +kernel) rfl
theorem ml_L_48 : Cond.methodLink RL 48 yX6_seed ∈ WSU := wsu_of 464 (by decide +kernel) rfl
theorem ml_L_52 : Cond.methodLink RL 52 yX6_weather ∈ WSU := wsu_of 468 (by decide +kernel) rfl
theorem ml_X6_174 : Cond.methodLink RX6 174 yX6_change ∈ WSU := wsu_of 472 (by decide +kernel) rfl
theorem ml_L_56 : Cond.methodLink RL 56 yX6_sky ∈ WSU := wsu_of 475 (by decide +kernel) rfl
theorem ml_L_61 : Cond.methodLink RL 61 yX6_sunset ∈ WSU := wsu_of 479 (by decide +kernel) rfl
theorem ml_L_65 : Cond.methodLink RL 65 yX6_run ∈ WSU := wsu_of 483 (by decide +kernel) rfl
theorem ml_X6_184 : Cond.methodLink RX6 184 yX5_hoursLeft ∈ WSU := wsu_of 487 (by decide +kernel) rfl
theorem ml_X6_187 : Cond.methodLink RX6 187 yX5_passHours ∈ WSU := wsu_of 491 (by decide +kernel) rfl
theorem ml_X5_120 : Cond.methodLink RX5 120 yX5_passHour ∈ WSU := wsu_of 495 (by decide +kernel) rfl
theorem ml_X5_123 : Cond.methodLink RX5 123 yX5_letRain ∈ WSU := wsu_of 499 (by decide +kernel) rfl
theorem ml_X5_139 : Cond.methodLink RX5 139 yX2_takeWater ∈ WSU := wsu_of 503 (by decide +kernel) rfl
theorem ml_X5_127 : Cond.methodLink RX5 127 yX5_letSnow ∈ WSU := wsu_of 504 (by decide +kernel) rfl
theorem ml_X5_143 : Cond.methodLink RX5 143 yX2_takeSnow ∈ WSU := wsu_of 508 (by decide +kernel) rfl
theorem ml_X5_130 : Cond.methodLink RX5 130 yX5_letHail ∈ WSU := wsu_of 512 (by decide +kernel) rfl
theorem ml_X5_133 : Cond.methodLink RX5 133 yX5_letSlide ∈ WSU := wsu_of 516 (by decide +kernel) rfl
theorem ml_X5_146 : Cond.methodLink RX5 146 yX2_bears ∈ WSU := wsu_of 520 (by decide +kernel) rfl
theorem ml_X5_149 : Cond.methodLink RX5 149 yX2_isOf ∈ WSU := wsu_of 521 (by decide +kernel) rfl
theorem ml_X5_136 : Cond.methodLink RX5 136 yX5_letMelt ∈ WSU := wsu_of 522 (by decide +kernel) rfl
theorem ml_X5_153 : Cond.methodLink RX5 153 yX5_melts ∈ WSU := wsu_of 526 (by decide +kernel) rfl
theorem ml_X5_156 : Cond.methodLink RX5 156 yX5_owns ∈ WSU := wsu_of 527 (by decide +kernel) rfl
theorem ml_L_69 : Cond.methodLink RL 69 yX6_kilos ∈ WSU := wsu_of 528 (by decide +kernel) rfl
theorem ml_X6_200 : Cond.methodLink RX6 200 yX5_allKilos ∈ WSU := wsu_of 532 (by decide +kernel) rfl
theorem ml_X5_160 : Cond.methodLink RX5 160 yX5_roofsWater ∈ WSU := wsu_of 536 (by decide +kernel) rfl
theorem ml_X5_163 : Cond.methodLink RX5 163 yX5_roofsSnow ∈ WSU := wsu_of 540 (by decide +kernel) rfl
theorem ml_L_73 : Cond.methodLink RL 73 yX6_behind ∈ WSU := wsu_of 544 (by decide +kernel) rfl
theorem ml_X6_203 : Cond.methodLink RX6 203 yX5_become ∈ WSU := wsu_of 548 (by decide +kernel) rfl
theorem ml_X5_67 : Cond.methodLink RX5 67 yX2_become ∈ WSU := wsu_of 552 (by decide +kernel) rfl
theorem ml_X5_71 : Cond.methodLink RX5 71 arraycopyName ∈ WSU := wsu_of 556 (by decide +kernel) rfl
theorem ml_L_77 : Cond.methodLink RL 77 yX6_best ∈ WSU := wsu_of 559 (by decide +kernel) rfl
theorem ml_X6_207 : Cond.methodLink RX6 207 yX6_yieldOfHeat ∈ WSU := wsu_of 563 (by decide +kernel) rfl
theorem ml_L_81 : Cond.methodLink RL 81 yX6_leastRoom ∈ WSU := wsu_of 567 (by decide +kernel) rfl
theorem ml_X6_212 : Cond.methodLink RX6 212 yX5_passHour ∈ WSU := wsu_of 572 (by decide +kernel) rfl
theorem ml_X6_215 : Cond.methodLink RX6 215 yJ9_max_7cf53 ∈ WSU := wsu_of 573 (by decide +kernel) rfl
theorem ml_L_85 : Cond.methodLink RL 85 yX6_slide ∈ WSU := wsu_of 574 (by decide +kernel) rfl
theorem ml_L_89 : Cond.methodLink RL 89 yX6_gains ∈ WSU := wsu_of 579 (by decide +kernel) rfl
theorem ml_X6_219 : Cond.methodLink RX6 219 yX6_thinkOfWaters ∈ WSU := wsu_of 583 (by decide +kernel) rfl
theorem ml_L_93 : Cond.methodLink RL 93 yX6_explained ∈ WSU := wsu_of 587 (by decide +kernel) rfl
theorem ml_X6_223 : Cond.methodLink RX6 223 yX6_isSheet ∈ WSU := wsu_of 591 (by decide +kernel) rfl
theorem ml_X6_226 : Cond.methodLink RX6 226 yX3_isMissing ∈ WSU := wsu_of 594 (by decide +kernel) rfl
theorem ml_X6_231 : Cond.methodLink RX6 231 yX6_misfit ∈ WSU := wsu_of 599 (by decide +kernel) rfl
theorem ml_X6_288 : Cond.methodLink RX6 288 yX3_isNumber ∈ WSU := wsu_of 603 (by decide +kernel) rfl
theorem ml_X6_346 : Cond.methodLink RX6 346 yJ9_abs_0f7a4 ∈ WSU := wsu_of 608 (by decide +kernel) rfl
theorem ml_L_97 : Cond.methodLink RL 97 yX6_fine ∈ WSU := wsu_of 611 (by decide +kernel) rfl
theorem ml_X6_235 : Cond.methodLink RX6 235 yX5_fineFor ∈ WSU := wsu_of 615 (by decide +kernel) rfl
theorem ml_L_101 : Cond.methodLink RL 101 yX6_feed ∈ WSU := wsu_of 619 (by decide +kernel) rfl
theorem ml_X6_238 : Cond.methodLink RX6 238 yX6_putBytes ∈ WSU := wsu_of 623 (by decide +kernel) rfl
theorem ml_L_105 : Cond.methodLink RL 105 yX6_trim ∈ WSU := wsu_of 627 (by decide +kernel) rfl
theorem ml_L_109 : Cond.methodLink RL 109 yX6_text ∈ WSU := wsu_of 631 (by decide +kernel) rfl
theorem ml_X6_242 : Cond.methodLink RX6 242 yX1_readText ∈ WSU := wsu_of 635 (by decide +kernel) rfl
theorem ml_X1_34 : Cond.methodLink RX1 34 yX1_goOn ∈ WSU := wsu_of 639 (by decide +kernel) rfl
theorem ml_X1_112 : Cond.methodLink RX1 112 yX1_sortOf ∈ WSU := wsu_of 643 (by decide +kernel) rfl
theorem ml_X1_37 : Cond.methodLink RX1 37 yX1_readKey ∈ WSU := wsu_of 646 (by decide +kernel) rfl
theorem ml_X1_45 : Cond.methodLink RX1 45 yX1_keyWord ∈ WSU := wsu_of 650 (by decide +kernel) rfl
theorem ml_X1_49 : Cond.methodLink RX1 49 yX1_isWord ∈ WSU := wsu_of 656 (by decide +kernel) rfl
theorem ml_X1_94 : Cond.methodLink RX1 94 yJ0_length_8abf5 ∈ WSU := wsu_of 660 (by decide +kernel) rfl
theorem ml_J0_335 : Cond.methodLink RJ0 335 yJ0_coder_7d493 ∈ WSU := wsu_of 664 (by decide +kernel) rfl
theorem ml_X1_96 : Cond.methodLink RX1 96 yJ0_charAt_5068e ∈ WSU := wsu_of 670 (by decide +kernel) rfl
theorem ml_J0_492 : Cond.methodLink RJ0 492 yJ0_isLatin1_aae02 ∈ WSU := wsu_of 674 (by decide +kernel) rfl
theorem ml_J0_495 : Cond.methodLink RJ0 495 yJ1_charAt_3b067 ∈ WSU := wsu_of 678 (by decide +kernel) rfl
theorem ml_J1_9 : Cond.methodLink RJ1 9 yJ0_checkIndex_df160 ∈ WSU := wsu_of 681 (by decide +kernel) rfl
theorem ml_J0_1059 : Cond.methodLink RJ0 1059 yJ3_checkIndex_8e157 ∈ WSU := wsu_of 686 (by decide +kernel) rfl
theorem ml_J0_498 : Cond.methodLink RJ0 498 yJ2_charAt_3b067 ∈ WSU := wsu_of 689 (by decide +kernel) rfl
theorem ml_J2_67 : Cond.methodLink RJ2 67 yJ2_checkIndex_2214a ∈ WSU := wsu_of 692 (by decide +kernel) rfl
theorem ml_J2_48 : Cond.methodLink RJ2 48 yJ2_length_9d52b ∈ WSU := wsu_of 695 (by decide +kernel) rfl
theorem ml_J2_414 : Cond.methodLink RJ2 414 yJ0_checkIndex_df160 ∈ WSU := wsu_of 698 (by decide +kernel) rfl
theorem ml_J2_71 : Cond.methodLink RJ2 71 yJ2_getChar_3b067 ∈ WSU := wsu_of 699 (by decide +kernel) rfl
theorem ml_X1_41 : Cond.methodLink RX1 41 yX1_readLevel ∈ WSU := wsu_of 708 (by decide +kernel) rfl
theorem ml_X1_56 : Cond.methodLink RX1 56 yX1_readPiece ∈ WSU := wsu_of 712 (by decide +kernel) rfl
theorem ml_X1_72 : Cond.methodLink RX1 72 yX1_numberRead ∈ WSU := wsu_of 716 (by decide +kernel) rfl
theorem ml_X1_76 : Cond.methodLink RX1 76 yX1_addOperand ∈ WSU := wsu_of 720 (by decide +kernel) rfl
theorem ml_X1_69 : Cond.methodLink RX1 69 yX1_addStep ∈ WSU := wsu_of 724 (by decide +kernel) rfl
theorem ml_X1_79 : Cond.methodLink RX1 79 yX1_nameRead ∈ WSU := wsu_of 728 (by decide +kernel) rfl
theorem ml_X1_85 : Cond.methodLink RX1 85 yX1_namesOf ∈ WSU := wsu_of 732 (by decide +kernel) rfl
theorem ml_X1_88 : Cond.methodLink RX1 88 yJ0_indexOf_0f7a4 ∈ WSU := wsu_of 738 (by decide +kernel) rfl
theorem ml_J0_633 : Cond.methodLink RJ0 633 yJ0_indexOf_7cf53 ∈ WSU := wsu_of 742 (by decide +kernel) rfl
theorem ml_J0_505 : Cond.methodLink RJ0 505 yJ0_length_8abf5 ∈ WSU := wsu_of 746 (by decide +kernel) rfl
theorem ml_J0_637 : Cond.methodLink RJ0 637 yJ1_indexOf_4cfef ∈ WSU := wsu_of 747 (by decide +kernel) rfl
theorem ml_J1_88 : Cond.methodLink RJ1 88 yJ1_canEncode_9a6ad ∈ WSU := wsu_of 750 (by decide +kernel) rfl
theorem ml_J1_92 : Cond.methodLink RJ1 92 yJ9_max_7cf53 ∈ WSU := wsu_of 753 (by decide +kernel) rfl
theorem ml_J1_38 : Cond.methodLink RJ1 38 yJ9_min_7cf53 ∈ WSU := wsu_of 754 (by decide +kernel) rfl
theorem ml_J1_95 : Cond.methodLink RJ1 95 yJ1_indexOfChar_4cfef ∈ WSU := wsu_of 755 (by decide +kernel) rfl
theorem ml_J0_640 : Cond.methodLink RJ0 640 yJ2_indexOf_4cfef ∈ WSU := wsu_of 758 (by decide +kernel) rfl
theorem ml_J2_224 : Cond.methodLink RJ2 224 yJ9_max_7cf53 ∈ WSU := wsu_of 761 (by decide +kernel) rfl
theorem ml_J2_183 : Cond.methodLink RJ2 183 yJ9_min_7cf53 ∈ WSU := wsu_of 762 (by decide +kernel) rfl
theorem ml_J2_228 : Cond.methodLink RJ2 228 yJ2_indexOfChar_4cfef ∈ WSU := wsu_of 764 (by decide +kernel) rfl
theorem ml_J2_96 : Cond.methodLink RJ2 96 yJ2_checkBoundsBeginEnd_d044e ∈ WSU := wsu_of 767 (by decide +kernel) rfl
theorem ml_J2_241 : Cond.methodLink RJ2 241 yJ0_checkBoundsBeginEnd_23922 ∈ WSU := wsu_of 770 (by decide +kernel) rfl
theorem ml_J0_1062 : Cond.methodLink RJ0 1062 yJ3_checkFromToIndex_8c36e ∈ WSU := wsu_of 773 (by decide +kernel) rfl
theorem ml_J2_244 : Cond.methodLink RJ2 244 yJ2_indexOfCharUnsafe_4cfef ∈ WSU := wsu_of 776 (by decide +kernel) rfl
theorem ml_J2_232 : Cond.methodLink RJ2 232 yJ2_indexOfSupplementary_4cfef ∈ WSU := wsu_of 779 (by decide +kernel) rfl
theorem ml_J2_164 : Cond.methodLink RJ2 164 yJ11_isValidCodePoint_9a6ad ∈ WSU := wsu_of 782 (by decide +kernel) rfl
theorem ml_J2_157 : Cond.methodLink RJ2 157 yJ11_highSurrogate_5068e ∈ WSU := wsu_of 785 (by decide +kernel) rfl
theorem ml_J2_161 : Cond.methodLink RJ2 161 yJ11_lowSurrogate_5068e ∈ WSU := wsu_of 789 (by decide +kernel) rfl
theorem ml_X1_82 : Cond.methodLink RX1 82 yX1_isSign ∈ WSU := wsu_of 793 (by decide +kernel) rfl
theorem ml_X1_60 : Cond.methodLink RX1 60 yX1_isSignOf ∈ WSU := wsu_of 797 (by decide +kernel) rfl
theorem ml_X6_251 : Cond.methodLink RX6 251 yX0_put ∈ WSU := wsu_of 801 (by decide +kernel) rfl
theorem ml_X0_42 : Cond.methodLink RX0 42 arraycopyName ∈ WSU := wsu_of 805 (by decide +kernel) rfl
theorem ml_L_113 : Cond.methodLink RL 113 yX6_textTold ∈ WSU := wsu_of 807 (by decide +kernel) rfl
theorem ml_L_117 : Cond.methodLink RL 117 yX6_why ∈ WSU := wsu_of 811 (by decide +kernel) rfl
theorem ml_L_121 : Cond.methodLink RL 121 yX6_sheet ∈ WSU := wsu_of 815 (by decide +kernel) rfl
theorem ml_X6_267 : Cond.methodLink RX6 267 yX3_lose ∈ WSU := wsu_of 819 (by decide +kernel) rfl
theorem ml_X6_271 : Cond.methodLink RX6 271 yX3_begin ∈ WSU := wsu_of 824 (by decide +kernel) rfl
theorem ml_L_125 : Cond.methodLink RL 125 yX6_mark ∈ WSU := wsu_of 828 (by decide +kernel) rfl
theorem ml_X6_274 : Cond.methodLink RX6 274 yX3_hasPlace ∈ WSU := wsu_of 832 (by decide +kernel) rfl
theorem ml_X6_281 : Cond.methodLink RX6 281 yX3_write ∈ WSU := wsu_of 837 (by decide +kernel) rfl
theorem ml_L_129 : Cond.methodLink RL 129 yX6_pour ∈ WSU := wsu_of 842 (by decide +kernel) rfl
theorem ml_L_133 : Cond.methodLink RL 133 yX6_reads ∈ WSU := wsu_of 846 (by decide +kernel) rfl
theorem ml_L_137 : Cond.methodLink RL 137 yX6_copy ∈ WSU := wsu_of 850 (by decide +kernel) rfl
theorem ml_X6_294 : Cond.methodLink RX6 294 yX3_hasPlaces ∈ WSU := wsu_of 854 (by decide +kernel) rfl
theorem ml_X6_298 : Cond.methodLink RX6 298 arraycopyName ∈ WSU := wsu_of 858 (by decide +kernel) rfl
theorem ml_L_142 : Cond.methodLink RL 142 yX6_lay ∈ WSU := wsu_of 859 (by decide +kernel) rfl
theorem ml_X6_304 : Cond.methodLink RX6 304 yX6_isSlot ∈ WSU := wsu_of 863 (by decide +kernel) rfl
theorem ml_X6_314 : Cond.methodLink RX6 314 yX2_become ∈ WSU := wsu_of 866 (by decide +kernel) rfl
theorem ml_X6_321 : Cond.methodLink RX6 321 yX3_become ∈ WSU := wsu_of 867 (by decide +kernel) rfl
theorem ml_X3_22 : Cond.methodLink RX3 22 arraycopyName ∈ WSU := wsu_of 871 (by decide +kernel) rfl
theorem ml_L_146 : Cond.methodLink RL 146 yX6_ask ∈ WSU := wsu_of 872 (by decide +kernel) rfl
theorem ml_X6_327 : Cond.methodLink RX6 327 yX4_findingFor ∈ WSU := wsu_of 876 (by decide +kernel) rfl
theorem ml_L_150 : Cond.methodLink RL 150 yX6_item ∈ WSU := wsu_of 882 (by decide +kernel) rfl
theorem ml_L_154 : Cond.methodLink RL 154 yX6_rest ∈ WSU := wsu_of 886 (by decide +kernel) rfl
theorem ml_L_158 : Cond.methodLink RL 158 yX6_tell ∈ WSU := wsu_of 891 (by decide +kernel) rfl
theorem ml_L_162 : Cond.methodLink RL 162 yX6_check ∈ WSU := wsu_of 895 (by decide +kernel) rfl
theorem ml_X6_331 : Cond.methodLink RX6 331 yX5_roofsWater ∈ WSU := wsu_of 899 (by decide +kernel) rfl
theorem ml_X6_334 : Cond.methodLink RX6 334 yX6_isWaiting ∈ WSU := wsu_of 900 (by decide +kernel) rfl
theorem ml_L_166 : Cond.methodLink RL 166 yX6_keep ∈ WSU := wsu_of 904 (by decide +kernel) rfl
theorem ml_L_170 : Cond.methodLink RL 170 yX6_back ∈ WSU := wsu_of 908 (by decide +kernel) rfl
theorem ml_L_174 : Cond.methodLink RL 174 yX6_count ∈ WSU := wsu_of 912 (by decide +kernel) rfl
theorem ml_X6_340 : Cond.methodLink RX6 340 yX5_roofsSnow ∈ WSU := wsu_of 916 (by decide +kernel) rfl
theorem ml_L_12 : Cond.methodLink RL 12 yX7_init ∈ WSU := wsu_of 919 (by decide +kernel) rfl
theorem ml_L_17 : Cond.methodLink RL 17 yX7_roof ∈ WSU := wsu_of 1025 (by decide +kernel) rfl
theorem ml_X7_76 : Cond.methodLink RX7 76 yX7_in ∈ WSU := wsu_of 1029 (by decide +kernel) rfl
theorem ml_X7_86 : Cond.methodLink RX7 86 yX7_comes ∈ WSU := wsu_of 1034 (by decide +kernel) rfl
theorem ml_X7_80 : Cond.methodLink RX7 80 yX7_put ∈ WSU := wsu_of 1038 (by decide +kernel) rfl
theorem ml_L_21 : Cond.methodLink RL 21 yX7_told ∈ WSU := wsu_of 1042 (by decide +kernel) rfl
theorem ml_X7_111 : Cond.methodLink RX7 111 yX7_isRoof ∈ WSU := wsu_of 1046 (by decide +kernel) rfl
theorem ml_X7_94 : Cond.methodLink RX7 94 yX7_of ∈ WSU := wsu_of 1050 (by decide +kernel) rfl
theorem ml_X7_97 : Cond.methodLink RX7 97 yX7_warmthOf ∈ WSU := wsu_of 1054 (by decide +kernel) rfl
theorem ml_X7_90 : Cond.methodLink RX7 90 yX7_hourOfDay ∈ WSU := wsu_of 1058 (by decide +kernel) rfl
theorem ml_X7_115 : Cond.methodLink RX7 115 yX7_meltsOf ∈ WSU := wsu_of 1062 (by decide +kernel) rfl
theorem ml_X7_101 : Cond.methodLink RX7 101 yX7_counts ∈ WSU := wsu_of 1066 (by decide +kernel) rfl
theorem ml_X7_104 : Cond.methodLink RX7 104 yX7_within ∈ WSU := wsu_of 1070 (by decide +kernel) rfl
theorem ml_X7_108 : Cond.methodLink RX7 108 yX7_worksOut ∈ WSU := wsu_of 1073 (by decide +kernel) rfl
theorem ml_X7_251 : Cond.methodLink RX7 251 yX7_two ∈ WSU := wsu_of 1077 (by decide +kernel) rfl
theorem ml_X7_118 : Cond.methodLink RX7 118 yX7_bearsOf ∈ WSU := wsu_of 1080 (by decide +kernel) rfl
theorem ml_X7_121 : Cond.methodLink RX7 121 yX7_owns ∈ WSU := wsu_of 1084 (by decide +kernel) rfl
theorem ml_X7_124 : Cond.methodLink RX7 124 yX7_worthOf ∈ WSU := wsu_of 1088 (by decide +kernel) rfl
theorem ml_L_25 : Cond.methodLink RL 25 yX7_as ∈ WSU := wsu_of 1092 (by decide +kernel) rfl
theorem ml_X7_127 : Cond.methodLink RX7 127 yX7_isUnder ∈ WSU := wsu_of 1096 (by decide +kernel) rfl
theorem ml_L_29 : Cond.methodLink RL 29 yX7_turns ∈ WSU := wsu_of 1100 (by decide +kernel) rfl
theorem ml_X7_132 : Cond.methodLink RX7 132 yX7_becomes ∈ WSU := wsu_of 1104 (by decide +kernel) rfl
theorem ml_L_34 : Cond.methodLink RL 34 yX7_set ∈ WSU := wsu_of 1108 (by decide +kernel) rfl
theorem ml_X7_135 : Cond.methodLink RX7 135 yX7_rains ∈ WSU := wsu_of 1112 (by decide +kernel) rfl
theorem ml_L_38 : Cond.methodLink RL 38 yX7_sweep ∈ WSU := wsu_of 1116 (by decide +kernel) rfl
theorem ml_L_42 : Cond.methodLink RL 42 yX7_use ∈ WSU := wsu_of 1120 (by decide +kernel) rfl
theorem ml_L_47 : Cond.methodLink RL 47 yX7_deal ∈ WSU := wsu_of 1124 (by decide +kernel) rfl
theorem ml_X7_140 : Cond.methodLink RX7 140 yX7_draw ∈ WSU := wsu_of 1128 (by decide +kernel) rfl
theorem ml_L_51 : Cond.methodLink RL 51 yX7_seed ∈ WSU := wsu_of 1133 (by decide +kernel) rfl
theorem ml_L_55 : Cond.methodLink RL 55 yX7_weather ∈ WSU := wsu_of 1137 (by decide +kernel) rfl
theorem ml_L_60 : Cond.methodLink RL 60 yX7_sky ∈ WSU := wsu_of 1141 (by decide +kernel) rfl
theorem ml_L_64 : Cond.methodLink RL 64 yX7_sunset ∈ WSU := wsu_of 1145 (by decide +kernel) rfl
theorem ml_L_68 : Cond.methodLink RL 68 yX7_run ∈ WSU := wsu_of 1149 (by decide +kernel) rfl
theorem ml_X7_155 : Cond.methodLink RX7 155 yX7_hours ∈ WSU := wsu_of 1153 (by decide +kernel) rfl
theorem ml_X7_152 : Cond.methodLink RX7 152 yX7_hour ∈ WSU := wsu_of 1157 (by decide +kernel) rfl
theorem ml_X7_146 : Cond.methodLink RX7 146 yX7_falls ∈ WSU := wsu_of 1161 (by decide +kernel) rfl
theorem ml_X7_143 : Cond.methodLink RX7 143 yX7_snows ∈ WSU := wsu_of 1165 (by decide +kernel) rfl
theorem ml_X7_149 : Cond.methodLink RX7 149 yX7_slides ∈ WSU := wsu_of 1169 (by decide +kernel) rfl
theorem ml_L_72 : Cond.methodLink RL 72 yX7_kilos ∈ WSU := wsu_of 1173 (by decide +kernel) rfl
theorem ml_X7_158 : Cond.methodLink RX7 158 yX7_sumOf ∈ WSU := wsu_of 1177 (by decide +kernel) rfl
theorem ml_L_76 : Cond.methodLink RL 76 yX7_behind ∈ WSU := wsu_of 1181 (by decide +kernel) rfl
theorem ml_X7_164 : Cond.methodLink RX7 164 yX7_thinks ∈ WSU := wsu_of 1185 (by decide +kernel) rfl
theorem ml_X7_167 : Cond.methodLink RX7 167 yX7_waterAt ∈ WSU := wsu_of 1189 (by decide +kernel) rfl
theorem ml_X7_170 : Cond.methodLink RX7 170 yX7_behindIt ∈ WSU := wsu_of 1192 (by decide +kernel) rfl
theorem ml_X7_161 : Cond.methodLink RX7 161 yX7_putsBack ∈ WSU := wsu_of 1196 (by decide +kernel) rfl
theorem ml_L_80 : Cond.methodLink RL 80 yX7_best ∈ WSU := wsu_of 1200 (by decide +kernel) rfl
theorem ml_L_84 : Cond.methodLink RL 84 yX7_leastRoom ∈ WSU := wsu_of 1204 (by decide +kernel) rfl
theorem ml_L_88 : Cond.methodLink RL 88 yX7_slide ∈ WSU := wsu_of 1209 (by decide +kernel) rfl
theorem ml_L_92 : Cond.methodLink RL 92 yX7_gains ∈ WSU := wsu_of 1214 (by decide +kernel) rfl
theorem ml_X7_174 : Cond.methodLink RX7 174 yX7_told0 ∈ WSU := wsu_of 1218 (by decide +kernel) rfl
theorem ml_L_96 : Cond.methodLink RL 96 yX7_explained ∈ WSU := wsu_of 1221 (by decide +kernel) rfl
theorem ml_X7_177 : Cond.methodLink RX7 177 yX7_isSheet ∈ WSU := wsu_of 1225 (by decide +kernel) rfl
theorem ml_X7_181 : Cond.methodLink RX7 181 yX7_offBy ∈ WSU := wsu_of 1229 (by decide +kernel) rfl
theorem ml_L_100 : Cond.methodLink RL 100 yX7_fine ∈ WSU := wsu_of 1233 (by decide +kernel) rfl
theorem ml_L_104 : Cond.methodLink RL 104 yX7_feed ∈ WSU := wsu_of 1237 (by decide +kernel) rfl
theorem ml_L_108 : Cond.methodLink RL 108 yX7_trim ∈ WSU := wsu_of 1241 (by decide +kernel) rfl
theorem ml_L_112 : Cond.methodLink RL 112 yX7_text ∈ WSU := wsu_of 1245 (by decide +kernel) rfl
theorem ml_X7_213 : Cond.methodLink RX7 213 yX7_go ∈ WSU := wsu_of 1249 (by decide +kernel) rfl
theorem ml_X7_201 : Cond.methodLink RX7 201 yX7_isLetter ∈ WSU := wsu_of 1253 (by decide +kernel) rfl
theorem ml_X7_207 : Cond.methodLink RX7 207 yX7_isFigure ∈ WSU := wsu_of 1257 (by decide +kernel) rfl
theorem ml_X7_245 : Cond.methodLink RX7 245 yX7_takesKey ∈ WSU := wsu_of 1261 (by decide +kernel) rfl
theorem ml_X7_248 : Cond.methodLink RX7 248 yX7_takesE ∈ WSU := wsu_of 1265 (by decide +kernel) rfl
theorem ml_X7_235 : Cond.methodLink RX7 235 yX7_takesPart ∈ WSU := wsu_of 1269 (by decide +kernel) rfl
theorem ml_X7_225 : Cond.methodLink RX7 225 yX7_nameOf ∈ WSU := wsu_of 1273 (by decide +kernel) rfl
theorem ml_X7_231 : Cond.methodLink RX7 231 yX7_settle ∈ WSU := wsu_of 1277 (by decide +kernel) rfl
theorem ml_X7_219 : Cond.methodLink RX7 219 yX7_rank ∈ WSU := wsu_of 1281 (by decide +kernel) rfl
theorem ml_X7_239 : Cond.methodLink RX7 239 yX7_notsOpen ∈ WSU := wsu_of 1284 (by decide +kernel) rfl
theorem ml_X7_242 : Cond.methodLink RX7 242 yX7_signHere ∈ WSU := wsu_of 1288 (by decide +kernel) rfl
theorem ml_L_116 : Cond.methodLink RL 116 yX7_textTold ∈ WSU := wsu_of 1292 (by decide +kernel) rfl
theorem ml_L_120 : Cond.methodLink RL 120 yX7_why ∈ WSU := wsu_of 1296 (by decide +kernel) rfl
theorem ml_L_124 : Cond.methodLink RL 124 yX7_sheet ∈ WSU := wsu_of 1300 (by decide +kernel) rfl
theorem ml_L_128 : Cond.methodLink RL 128 yX7_mark ∈ WSU := wsu_of 1305 (by decide +kernel) rfl
theorem ml_L_132 : Cond.methodLink RL 132 yX7_pour ∈ WSU := wsu_of 1311 (by decide +kernel) rfl
theorem ml_L_136 : Cond.methodLink RL 136 yX7_reads ∈ WSU := wsu_of 1315 (by decide +kernel) rfl
theorem ml_L_141 : Cond.methodLink RL 141 yX7_copy ∈ WSU := wsu_of 1319 (by decide +kernel) rfl
theorem ml_L_145 : Cond.methodLink RL 145 yX7_lay ∈ WSU := wsu_of 1323 (by decide +kernel) rfl
theorem ml_X7_257 : Cond.methodLink RX7 257 yX7_isSlot ∈ WSU := wsu_of 1327 (by decide +kernel) rfl
theorem ml_L_149 : Cond.methodLink RL 149 yX7_ask ∈ WSU := wsu_of 1330 (by decide +kernel) rfl
theorem ml_L_153 : Cond.methodLink RL 153 yX7_item ∈ WSU := wsu_of 1334 (by decide +kernel) rfl
theorem ml_L_157 : Cond.methodLink RL 157 yX7_rest ∈ WSU := wsu_of 1338 (by decide +kernel) rfl
theorem ml_L_161 : Cond.methodLink RL 161 yX7_tell ∈ WSU := wsu_of 1343 (by decide +kernel) rfl
theorem ml_L_165 : Cond.methodLink RL 165 yX7_check ∈ WSU := wsu_of 1347 (by decide +kernel) rfl
theorem ml_X7_268 : Cond.methodLink RX7 268 yX7_copyAll ∈ WSU := wsu_of 1351 (by decide +kernel) rfl
theorem ml_L_169 : Cond.methodLink RL 169 yX7_keep ∈ WSU := wsu_of 1354 (by decide +kernel) rfl
theorem ml_L_173 : Cond.methodLink RL 173 yX7_back ∈ WSU := wsu_of 1358 (by decide +kernel) rfl
theorem ml_L_177 : Cond.methodLink RL 177 yX7_count ∈ WSU := wsu_of 1362 (by decide +kernel) rfl
theorem ct_X5_24 : Cond.constant RX5 24 (-1000000005) ∈ WSU := wsu_of 117 (by decide +kernel) rfl
theorem ct_X6_83 : Cond.constant RX6 83 (-1000000001) ∈ WSU := wsu_of 355 (by decide +kernel) rfl
theorem ct_X6_87 : Cond.constant RX6 87 (-1000000003) ∈ WSU := wsu_of 356 (by decide +kernel) rfl
theorem ct_X6_140 : Cond.constant RX6 140 (-1000000012) ∈ WSU := wsu_of 422 (by decide +kernel) rfl
theorem ct_X5_81 : Cond.constant RX5 81 (1103515245) ∈ WSU := wsu_of 463 (by decide +kernel) rfl
theorem ct_X6_211 : Cond.constant RX6 211 (99999) ∈ WSU := wsu_of 571 (by decide +kernel) rfl
theorem ct_X6_218 : Cond.constant RX6 218 (-1000000005) ∈ WSU := wsu_of 578 (by decide +kernel) rfl
theorem ct_X6_230 : Cond.constant RX6 230 (-1000000011) ∈ WSU := wsu_of 598 (by decide +kernel) rfl
theorem ct_X3_28 : Cond.constant RX3 28 (-1000000005) ∈ WSU := wsu_of 607 (by decide +kernel) rfl
theorem ct_J2_227 : Cond.constant RJ2 227 (65536) ∈ WSU := wsu_of 763 (by decide +kernel) rfl
theorem ct_J11_110 : Cond.constant RJ11 110 (55232) ∈ WSU := wsu_of 788 (by decide +kernel) rfl
theorem ct_J11_76 : Cond.constant RJ11 76 (56320) ∈ WSU := wsu_of 792 (by decide +kernel) rfl
theorem ct_X6_270 : Cond.constant RX6 270 (-1000000014) ∈ WSU := wsu_of 823 (by decide +kernel) rfl
theorem ct_X6_277 : Cond.constant RX6 277 (-1000000013) ∈ WSU := wsu_of 836 (by decide +kernel) rfl
theorem ct_X6_284 : Cond.constant RX6 284 (-99999) ∈ WSU := wsu_of 841 (by decide +kernel) rfl
theorem ct_X4_32 : Cond.constant RX4 32 (-1000000011) ∈ WSU := wsu_of 880 (by decide +kernel) rfl
theorem ct_X4_33 : Cond.constant RX4 33 (-1000000012) ∈ WSU := wsu_of 881 (by decide +kernel) rfl
theorem ct_X6_330 : Cond.constant RX6 330 (-1000000002) ∈ WSU := wsu_of 890 (by decide +kernel) rfl
theorem ct_X7_84 : Cond.constant RX7 84 (-1000000001) ∈ WSU := wsu_of 1032 (by decide +kernel) rfl
theorem ct_X7_85 : Cond.constant RX7 85 (-1000000003) ∈ WSU := wsu_of 1033 (by decide +kernel) rfl
theorem ct_X7_131 : Cond.constant RX7 131 (-1000000012) ∈ WSU := wsu_of 1099 (by decide +kernel) rfl
theorem ct_X7_139 : Cond.constant RX7 139 (1103515245) ∈ WSU := wsu_of 1132 (by decide +kernel) rfl
theorem ct_X7_173 : Cond.constant RX7 173 (99999) ∈ WSU := wsu_of 1208 (by decide +kernel) rfl
theorem ct_X7_75 : Cond.constant RX7 75 (-1000000005) ∈ WSU := wsu_of 1213 (by decide +kernel) rfl
theorem ct_X7_180 : Cond.constant RX7 180 (-1000000011) ∈ WSU := wsu_of 1228 (by decide +kernel) rfl
theorem ct_X7_254 : Cond.constant RX7 254 (-1000000014) ∈ WSU := wsu_of 1304 (by decide +kernel) rfl
theorem ct_X7_255 : Cond.constant RX7 255 (-1000000013) ∈ WSU := wsu_of 1309 (by decide +kernel) rfl
theorem ct_X7_256 : Cond.constant RX7 256 (-99999) ∈ WSU := wsu_of 1310 (by decide +kernel) rfl
theorem ct_X7_260 : Cond.constant RX7 260 (-1000000002) ∈ WSU := wsu_of 1342 (by decide +kernel) rfl
abbrev mX6_init : MI := (yX6_init, cX6_init, 2, none)
abbrev mX0_init : MI := (yX0_init, cX0_init, 1, none)
abbrev mX5_init : MI := (yX5_init, cX5_init, 3, none)
abbrev mX2_init : MI := (yX2_init, cX2_init, 1, none)
abbrev mX1_init : MI := (yX1_init, cX1_init, 2, none)
abbrev mX3_init : MI := (yX3_init, cX3_init, 1, none)
abbrev mX4_init : MI := (yX4_init, cX4_init, 1, none)
abbrev mX6_roof : MI := (yX6_roof, cX6_roof, 3, some .int)
theorem mv_X6_roof : MV mX6_roof 2 := ⟨wsu_of 348 (by decide +kernel) rfl, wsu_of 59 (by decide +kernel) rfl, by decide +kernel, by decide, wsu_of 346 (by decide +kernel) rfl, wsu_of 347 (by decide +kernel) rfl⟩
abbrev mX6_isKind : MI := (yX6_isKind, cX6_isKind, 1, some .boolean)
theorem ms_X6_isKind : MS mX6_isKind 1 := ⟨wsu_of 351 (by decide +kernel) rfl, wsu_of 59 (by decide +kernel) rfl, by decide +kernel, by decide, wsu_of 350 (by decide +kernel) rfl⟩
abbrev mX6_isWithin : MI := (yX6_isWithin, cX6_isWithin, 3, some .boolean)
theorem ms_X6_isWithin : MS mX6_isWithin 3 := ⟨wsu_of 354 (by decide +kernel) rfl, wsu_of 59 (by decide +kernel) rfl, by decide +kernel, by decide, wsu_of 353 (by decide +kernel) rfl⟩
abbrev mX5_addRoof : MI := (yX5_addRoof, cX5_addRoof, 4, some .int)
theorem mv_X5_addRoof : MV mX5_addRoof 2 := ⟨wsu_of 360 (by decide +kernel) rfl, wsu_of 61 (by decide +kernel) rfl, by decide +kernel, by decide, wsu_of 358 (by decide +kernel) rfl, wsu_of 359 (by decide +kernel) rfl⟩
abbrev mX2_begin : MI := (yX2_begin, cX2_begin, 3, none)
theorem mv_X2_begin : MV mX2_begin 2 := ⟨wsu_of 364 (by decide +kernel) rfl, wsu_of 62 (by decide +kernel) rfl, by decide +kernel, by decide, wsu_of 362 (by decide +kernel) rfl, wsu_of 363 (by decide +kernel) rfl⟩
abbrev mX6_told : MI := (yX6_told, cX6_told, 4, some .int)
theorem mv_X6_told : MV mX6_told 2 := ⟨wsu_of 368 (by decide +kernel) rfl, wsu_of 59 (by decide +kernel) rfl, by decide +kernel, by decide, wsu_of 366 (by decide +kernel) rfl, wsu_of 367 (by decide +kernel) rfl⟩
abbrev mX6_isRoof : MI := (yX6_isRoof, cX6_isRoof, 2, some .boolean)
theorem mv_X6_isRoof : MV mX6_isRoof 1 := ⟨wsu_of 372 (by decide +kernel) rfl, wsu_of 59 (by decide +kernel) rfl, by decide +kernel, by decide, wsu_of 371 (by decide +kernel) rfl, wsu_of 0 (by decide +kernel) rfl⟩
abbrev mX5_warmth : MI := (yX5_warmth, cX5_warmth, 2, some .int)
theorem mv_X5_warmth : MV mX5_warmth 1 := ⟨wsu_of 376 (by decide +kernel) rfl, wsu_of 61 (by decide +kernel) rfl, by decide +kernel, by decide, wsu_of 374 (by decide +kernel) rfl, wsu_of 375 (by decide +kernel) rfl⟩
abbrev mX5_hourOfDay : MI := (yX5_hourOfDay, cX5_hourOfDay, 1, some .int)
theorem mv_X5_hourOfDay : MV mX5_hourOfDay 0 := ⟨wsu_of 380 (by decide +kernel) rfl, wsu_of 61 (by decide +kernel) rfl, by decide +kernel, by decide, wsu_of 378 (by decide +kernel) rfl, wsu_of 379 (by decide +kernel) rfl⟩
abbrev mX5_melts : MI := (yX5_melts, cX5_melts, 6, some .int)
theorem mv_X5_melts : MV mX5_melts 1 := ⟨wsu_of 384 (by decide +kernel) rfl, wsu_of 61 (by decide +kernel) rfl, by decide +kernel, by decide, wsu_of 382 (by decide +kernel) rfl, wsu_of 383 (by decide +kernel) rfl⟩
abbrev mX0_give : MI := (yX0_give, cX0_give, 8, some .int)
theorem mv_X0_give : MV mX0_give 4 := ⟨wsu_of 389 (by decide +kernel) rfl, wsu_of 60 (by decide +kernel) rfl, by decide +kernel, by decide, wsu_of 387 (by decide +kernel) rfl, wsu_of 388 (by decide +kernel) rfl⟩
abbrev mX0_joined : MI := (yX0_joined, cX0_joined, 3, some .int)
theorem ms_X0_joined : MS mX0_joined 3 := ⟨wsu_of 392 (by decide +kernel) rfl, wsu_of 60 (by decide +kernel) rfl, by decide +kernel, by decide, wsu_of 391 (by decide +kernel) rfl⟩
abbrev mJ9_min_7cf53 : MI := (yJ9_min_7cf53, cJ9_min_7cf53, 2, some .int)
theorem ms_J9_min_7cf53 : MS mJ9_min_7cf53 2 := ⟨wsu_of 395 (by decide +kernel) rfl, wsu_of 67 (by decide +kernel) rfl, by decide +kernel, by decide, wsu_of 394 (by decide +kernel) rfl⟩
abbrev mJ9_max_7cf53 : MI := (yJ9_max_7cf53, cJ9_max_7cf53, 2, some .int)
theorem ms_J9_max_7cf53 : MS mJ9_max_7cf53 2 := ⟨wsu_of 398 (by decide +kernel) rfl, wsu_of 67 (by decide +kernel) rfl, by decide +kernel, by decide, wsu_of 397 (by decide +kernel) rfl⟩
abbrev mX2_bears : MI := (yX2_bears, cX2_bears, 1, some .int)
theorem mv_X2_bears : MV mX2_bears 0 := ⟨wsu_of 402 (by decide +kernel) rfl, wsu_of 62 (by decide +kernel) rfl, by decide +kernel, by decide, wsu_of 400 (by decide +kernel) rfl, wsu_of 401 (by decide +kernel) rfl⟩
abbrev mX2_isOf : MI := (yX2_isOf, cX2_isOf, 4, some .boolean)
theorem mv_X2_isOf : MV mX2_isOf 1 := ⟨wsu_of 406 (by decide +kernel) rfl, wsu_of 62 (by decide +kernel) rfl, by decide +kernel, by decide, wsu_of 404 (by decide +kernel) rfl, wsu_of 405 (by decide +kernel) rfl⟩
abbrev mX5_owns : MI := (yX5_owns, cX5_owns, 3, some .boolean)
theorem mv_X5_owns : MV mX5_owns 1 := ⟨wsu_of 412 (by decide +kernel) rfl, wsu_of 61 (by decide +kernel) rfl, by decide +kernel, by decide, wsu_of 410 (by decide +kernel) rfl, wsu_of 411 (by decide +kernel) rfl⟩
abbrev mX2_worth : MI := (yX2_worth, cX2_worth, 1, some .int)
theorem mv_X2_worth : MV mX2_worth 0 := ⟨wsu_of 416 (by decide +kernel) rfl, wsu_of 62 (by decide +kernel) rfl, by decide +kernel, by decide, wsu_of 414 (by decide +kernel) rfl, wsu_of 415 (by decide +kernel) rfl⟩
abbrev mX6_as : MI := (yX6_as, cX6_as, 4, some .int)
theorem mv_X6_as : MV mX6_as 2 := ⟨wsu_of 420 (by decide +kernel) rfl, wsu_of 59 (by decide +kernel) rfl, by decide +kernel, by decide, wsu_of 418 (by decide +kernel) rfl, wsu_of 419 (by decide +kernel) rfl⟩
abbrev mX6_turns : MI := (yX6_turns, cX6_turns, 5, some .int)
theorem mv_X6_turns : MV mX6_turns 2 := ⟨wsu_of 426 (by decide +kernel) rfl, wsu_of 59 (by decide +kernel) rfl, by decide +kernel, by decide, wsu_of 424 (by decide +kernel) rfl, wsu_of 425 (by decide +kernel) rfl⟩
abbrev mX6_set : MI := (yX6_set, cX6_set, 4, some .int)
theorem mv_X6_set : MV mX6_set 3 := ⟨wsu_of 430 (by decide +kernel) rfl, wsu_of 59 (by decide +kernel) rfl, by decide +kernel, by decide, wsu_of 428 (by decide +kernel) rfl, wsu_of 429 (by decide +kernel) rfl⟩
abbrev mX6_changeSize : MI := (yX6_changeSize, cX6_changeSize, 3, some .int)
theorem ms_X6_changeSize : MS mX6_changeSize 2 := ⟨wsu_of 433 (by decide +kernel) rfl, wsu_of 59 (by decide +kernel) rfl, by decide +kernel, by decide, wsu_of 432 (by decide +kernel) rfl⟩
abbrev mX6_changeHeat : MI := (yX6_changeHeat, cX6_changeHeat, 3, some .int)
theorem ms_X6_changeHeat : MS mX6_changeHeat 2 := ⟨wsu_of 436 (by decide +kernel) rfl, wsu_of 59 (by decide +kernel) rfl, by decide +kernel, by decide, wsu_of 435 (by decide +kernel) rfl⟩
abbrev mX6_changeRoom : MI := (yX6_changeRoom, cX6_changeRoom, 4, some .int)
theorem mv_X6_changeRoom : MV mX6_changeRoom 2 := ⟨wsu_of 440 (by decide +kernel) rfl, wsu_of 59 (by decide +kernel) rfl, by decide +kernel, by decide, wsu_of 439 (by decide +kernel) rfl, wsu_of 1 (by decide +kernel) rfl⟩
abbrev mX2_takeWater : MI := (yX2_takeWater, cX2_takeWater, 3, some .int)
theorem mv_X2_takeWater : MV mX2_takeWater 1 := ⟨wsu_of 444 (by decide +kernel) rfl, wsu_of 62 (by decide +kernel) rfl, by decide +kernel, by decide, wsu_of 442 (by decide +kernel) rfl, wsu_of 443 (by decide +kernel) rfl⟩
abbrev mX6_sweep : MI := (yX6_sweep, cX6_sweep, 5, some .int)
theorem mv_X6_sweep : MV mX6_sweep 2 := ⟨wsu_of 449 (by decide +kernel) rfl, wsu_of 59 (by decide +kernel) rfl, by decide +kernel, by decide, wsu_of 447 (by decide +kernel) rfl, wsu_of 448 (by decide +kernel) rfl⟩
abbrev mX6_use : MI := (yX6_use, cX6_use, 5, some .int)
theorem mv_X6_use : MV mX6_use 2 := ⟨wsu_of 454 (by decide +kernel) rfl, wsu_of 59 (by decide +kernel) rfl, by decide +kernel, by decide, wsu_of 452 (by decide +kernel) rfl, wsu_of 453 (by decide +kernel) rfl⟩
abbrev mX6_deal : MI := (yX6_deal, cX6_deal, 6, some .int)
theorem mv_X6_deal : MV mX6_deal 1 := ⟨wsu_of 458 (by decide +kernel) rfl, wsu_of 59 (by decide +kernel) rfl, by decide +kernel, by decide, wsu_of 456 (by decide +kernel) rfl, wsu_of 457 (by decide +kernel) rfl⟩
abbrev mX5_draw : MI := (yX5_draw, cX5_draw, 1, some .int)
theorem mv_X5_draw : MV mX5_draw 0 := ⟨wsu_of 462 (by decide +kernel) rfl, wsu_of 61 (by decide +kernel) rfl, by decide +kernel, by decide, wsu_of 460 (by decide +kernel) rfl, wsu_of 461 (by decide +kernel) rfl⟩
abbrev mX6_seed : MI := (yX6_seed, cX6_seed, 3, some .int)
theorem mv_X6_seed : MV mX6_seed 1 := ⟨wsu_of 467 (by decide +kernel) rfl, wsu_of 59 (by decide +kernel) rfl, by decide +kernel, by decide, wsu_of 465 (by decide +kernel) rfl, wsu_of 466 (by decide +kernel) rfl⟩
abbrev mX6_weather : MI := (yX6_weather, cX6_weather, 4, some .int)
theorem mv_X6_weather : MV mX6_weather 3 := ⟨wsu_of 471 (by decide +kernel) rfl, wsu_of 59 (by decide +kernel) rfl, by decide +kernel, by decide, wsu_of 469 (by decide +kernel) rfl, wsu_of 470 (by decide +kernel) rfl⟩
abbrev mX6_change : MI := (yX6_change, cX6_change, 4, some .int)
theorem ms_X6_change : MS mX6_change 3 := ⟨wsu_of 474 (by decide +kernel) rfl, wsu_of 59 (by decide +kernel) rfl, by decide +kernel, by decide, wsu_of 473 (by decide +kernel) rfl⟩
abbrev mX6_sky : MI := (yX6_sky, cX6_sky, 3, some .int)
theorem mv_X6_sky : MV mX6_sky 0 := ⟨wsu_of 478 (by decide +kernel) rfl, wsu_of 59 (by decide +kernel) rfl, by decide +kernel, by decide, wsu_of 476 (by decide +kernel) rfl, wsu_of 477 (by decide +kernel) rfl⟩
abbrev mX6_sunset : MI := (yX6_sunset, cX6_sunset, 3, some .int)
theorem mv_X6_sunset : MV mX6_sunset 1 := ⟨wsu_of 482 (by decide +kernel) rfl, wsu_of 59 (by decide +kernel) rfl, by decide +kernel, by decide, wsu_of 480 (by decide +kernel) rfl, wsu_of 481 (by decide +kernel) rfl⟩
abbrev mX6_run : MI := (yX6_run, cX6_run, 2, some .int)
theorem mv_X6_run : MV mX6_run 1 := ⟨wsu_of 486 (by decide +kernel) rfl, wsu_of 59 (by decide +kernel) rfl, by decide +kernel, by decide, wsu_of 484 (by decide +kernel) rfl, wsu_of 485 (by decide +kernel) rfl⟩
abbrev mX5_hoursLeft : MI := (yX5_hoursLeft, cX5_hoursLeft, 1, some .int)
theorem mv_X5_hoursLeft : MV mX5_hoursLeft 0 := ⟨wsu_of 490 (by decide +kernel) rfl, wsu_of 61 (by decide +kernel) rfl, by decide +kernel, by decide, wsu_of 488 (by decide +kernel) rfl, wsu_of 489 (by decide +kernel) rfl⟩
abbrev mX5_passHours : MI := (yX5_passHours, cX5_passHours, 4, some .int)
theorem mv_X5_passHours : MV mX5_passHours 1 := ⟨wsu_of 494 (by decide +kernel) rfl, wsu_of 61 (by decide +kernel) rfl, by decide +kernel, by decide, wsu_of 492 (by decide +kernel) rfl, wsu_of 493 (by decide +kernel) rfl⟩
abbrev mX5_passHour : MI := (yX5_passHour, cX5_passHour, 5, some .int)
theorem mv_X5_passHour : MV mX5_passHour 0 := ⟨wsu_of 498 (by decide +kernel) rfl, wsu_of 61 (by decide +kernel) rfl, by decide +kernel, by decide, wsu_of 496 (by decide +kernel) rfl, wsu_of 497 (by decide +kernel) rfl⟩
abbrev mX5_letRain : MI := (yX5_letRain, cX5_letRain, 3, none)
theorem mv_X5_letRain : MV mX5_letRain 1 := ⟨wsu_of 502 (by decide +kernel) rfl, wsu_of 61 (by decide +kernel) rfl, by decide +kernel, by decide, wsu_of 501 (by decide +kernel) rfl, wsu_of 2 (by decide +kernel) rfl⟩
abbrev mX5_letSnow : MI := (yX5_letSnow, cX5_letSnow, 3, none)
theorem mv_X5_letSnow : MV mX5_letSnow 1 := ⟨wsu_of 507 (by decide +kernel) rfl, wsu_of 61 (by decide +kernel) rfl, by decide +kernel, by decide, wsu_of 506 (by decide +kernel) rfl, wsu_of 3 (by decide +kernel) rfl⟩
abbrev mX2_takeSnow : MI := (yX2_takeSnow, cX2_takeSnow, 3, some .int)
theorem mv_X2_takeSnow : MV mX2_takeSnow 1 := ⟨wsu_of 511 (by decide +kernel) rfl, wsu_of 62 (by decide +kernel) rfl, by decide +kernel, by decide, wsu_of 509 (by decide +kernel) rfl, wsu_of 510 (by decide +kernel) rfl⟩
abbrev mX5_letHail : MI := (yX5_letHail, cX5_letHail, 3, none)
theorem mv_X5_letHail : MV mX5_letHail 1 := ⟨wsu_of 515 (by decide +kernel) rfl, wsu_of 61 (by decide +kernel) rfl, by decide +kernel, by decide, wsu_of 514 (by decide +kernel) rfl, wsu_of 4 (by decide +kernel) rfl⟩
abbrev mX5_letSlide : MI := (yX5_letSlide, cX5_letSlide, 6, some .int)
theorem mv_X5_letSlide : MV mX5_letSlide 0 := ⟨wsu_of 519 (by decide +kernel) rfl, wsu_of 61 (by decide +kernel) rfl, by decide +kernel, by decide, wsu_of 518 (by decide +kernel) rfl, wsu_of 5 (by decide +kernel) rfl⟩
abbrev mX5_letMelt : MI := (yX5_letMelt, cX5_letMelt, 4, none)
theorem mv_X5_letMelt : MV mX5_letMelt 0 := ⟨wsu_of 525 (by decide +kernel) rfl, wsu_of 61 (by decide +kernel) rfl, by decide +kernel, by decide, wsu_of 524 (by decide +kernel) rfl, wsu_of 6 (by decide +kernel) rfl⟩
abbrev mX6_kilos : MI := (yX6_kilos, cX6_kilos, 2, some .int)
theorem mv_X6_kilos : MV mX6_kilos 1 := ⟨wsu_of 531 (by decide +kernel) rfl, wsu_of 59 (by decide +kernel) rfl, by decide +kernel, by decide, wsu_of 529 (by decide +kernel) rfl, wsu_of 530 (by decide +kernel) rfl⟩
abbrev mX5_allKilos : MI := (yX5_allKilos, cX5_allKilos, 1, some .int)
theorem mv_X5_allKilos : MV mX5_allKilos 0 := ⟨wsu_of 535 (by decide +kernel) rfl, wsu_of 61 (by decide +kernel) rfl, by decide +kernel, by decide, wsu_of 533 (by decide +kernel) rfl, wsu_of 534 (by decide +kernel) rfl⟩
abbrev mX5_roofsWater : MI := (yX5_roofsWater, cX5_roofsWater, 3, some .int)
theorem mv_X5_roofsWater : MV mX5_roofsWater 0 := ⟨wsu_of 539 (by decide +kernel) rfl, wsu_of 61 (by decide +kernel) rfl, by decide +kernel, by decide, wsu_of 537 (by decide +kernel) rfl, wsu_of 538 (by decide +kernel) rfl⟩
abbrev mX5_roofsSnow : MI := (yX5_roofsSnow, cX5_roofsSnow, 3, some .int)
theorem mv_X5_roofsSnow : MV mX5_roofsSnow 0 := ⟨wsu_of 543 (by decide +kernel) rfl, wsu_of 61 (by decide +kernel) rfl, by decide +kernel, by decide, wsu_of 541 (by decide +kernel) rfl, wsu_of 542 (by decide +kernel) rfl⟩
abbrev mX6_behind : MI := (yX6_behind, cX6_behind, 4, some .int)
theorem mv_X6_behind : MV mX6_behind 3 := ⟨wsu_of 547 (by decide +kernel) rfl, wsu_of 59 (by decide +kernel) rfl, by decide +kernel, by decide, wsu_of 545 (by decide +kernel) rfl, wsu_of 546 (by decide +kernel) rfl⟩
abbrev mX5_become : MI := (yX5_become, cX5_become, 3, none)
theorem mv_X5_become : MV mX5_become 1 := ⟨wsu_of 551 (by decide +kernel) rfl, wsu_of 61 (by decide +kernel) rfl, by decide +kernel, by decide, wsu_of 549 (by decide +kernel) rfl, wsu_of 550 (by decide +kernel) rfl⟩
abbrev mX2_become : MI := (yX2_become, cX2_become, 2, none)
theorem mv_X2_become : MV mX2_become 1 := ⟨wsu_of 555 (by decide +kernel) rfl, wsu_of 62 (by decide +kernel) rfl, by decide +kernel, by decide, wsu_of 553 (by decide +kernel) rfl, wsu_of 554 (by decide +kernel) rfl⟩
abbrev mX6_best : MI := (yX6_best, cX6_best, 8, some .int)
theorem mv_X6_best : MV mX6_best 3 := ⟨wsu_of 562 (by decide +kernel) rfl, wsu_of 59 (by decide +kernel) rfl, by decide +kernel, by decide, wsu_of 560 (by decide +kernel) rfl, wsu_of 561 (by decide +kernel) rfl⟩
abbrev mX6_yieldOfHeat : MI := (yX6_yieldOfHeat, cX6_yieldOfHeat, 4, some .int)
theorem mv_X6_yieldOfHeat : MV mX6_yieldOfHeat 3 := ⟨wsu_of 566 (by decide +kernel) rfl, wsu_of 59 (by decide +kernel) rfl, by decide +kernel, by decide, wsu_of 565 (by decide +kernel) rfl, wsu_of 7 (by decide +kernel) rfl⟩
abbrev mX6_leastRoom : MI := (yX6_leastRoom, cX6_leastRoom, 6, some .int)
theorem mv_X6_leastRoom : MV mX6_leastRoom 2 := ⟨wsu_of 570 (by decide +kernel) rfl, wsu_of 59 (by decide +kernel) rfl, by decide +kernel, by decide, wsu_of 568 (by decide +kernel) rfl, wsu_of 569 (by decide +kernel) rfl⟩
abbrev mX6_slide : MI := (yX6_slide, cX6_slide, 2, some .int)
theorem mv_X6_slide : MV mX6_slide 0 := ⟨wsu_of 577 (by decide +kernel) rfl, wsu_of 59 (by decide +kernel) rfl, by decide +kernel, by decide, wsu_of 575 (by decide +kernel) rfl, wsu_of 576 (by decide +kernel) rfl⟩
abbrev mX6_gains : MI := (yX6_gains, cX6_gains, 7, some .int)
theorem mv_X6_gains : MV mX6_gains 2 := ⟨wsu_of 582 (by decide +kernel) rfl, wsu_of 59 (by decide +kernel) rfl, by decide +kernel, by decide, wsu_of 580 (by decide +kernel) rfl, wsu_of 581 (by decide +kernel) rfl⟩
abbrev mX6_thinkOfWaters : MI := (yX6_thinkOfWaters, cX6_thinkOfWaters, 3, none)
theorem mv_X6_thinkOfWaters : MV mX6_thinkOfWaters 1 := ⟨wsu_of 586 (by decide +kernel) rfl, wsu_of 59 (by decide +kernel) rfl, by decide +kernel, by decide, wsu_of 585 (by decide +kernel) rfl, wsu_of 8 (by decide +kernel) rfl⟩
abbrev mX6_explained : MI := (yX6_explained, cX6_explained, 7, some .int)
theorem mv_X6_explained : MV mX6_explained 2 := ⟨wsu_of 590 (by decide +kernel) rfl, wsu_of 59 (by decide +kernel) rfl, by decide +kernel, by decide, wsu_of 588 (by decide +kernel) rfl, wsu_of 589 (by decide +kernel) rfl⟩
abbrev mX6_isSheet : MI := (yX6_isSheet, cX6_isSheet, 1, some .boolean)
theorem ms_X6_isSheet : MS mX6_isSheet 1 := ⟨wsu_of 593 (by decide +kernel) rfl, wsu_of 59 (by decide +kernel) rfl, by decide +kernel, by decide, wsu_of 592 (by decide +kernel) rfl⟩
abbrev mX3_isMissing : MI := (yX3_isMissing, cX3_isMissing, 1, some .boolean)
theorem mv_X3_isMissing : MV mX3_isMissing 0 := ⟨wsu_of 597 (by decide +kernel) rfl, wsu_of 64 (by decide +kernel) rfl, by decide +kernel, by decide, wsu_of 595 (by decide +kernel) rfl, wsu_of 596 (by decide +kernel) rfl⟩
abbrev mX6_misfit : MI := (yX6_misfit, cX6_misfit, 5, some .int)
theorem mv_X6_misfit : MV mX6_misfit 2 := ⟨wsu_of 602 (by decide +kernel) rfl, wsu_of 59 (by decide +kernel) rfl, by decide +kernel, by decide, wsu_of 601 (by decide +kernel) rfl, wsu_of 9 (by decide +kernel) rfl⟩
abbrev mX3_isNumber : MI := (yX3_isNumber, cX3_isNumber, 2, some .boolean)
theorem mv_X3_isNumber : MV mX3_isNumber 1 := ⟨wsu_of 606 (by decide +kernel) rfl, wsu_of 64 (by decide +kernel) rfl, by decide +kernel, by decide, wsu_of 604 (by decide +kernel) rfl, wsu_of 605 (by decide +kernel) rfl⟩
abbrev mJ9_abs_0f7a4 : MI := (yJ9_abs_0f7a4, cJ9_abs_0f7a4, 1, some .int)
theorem ms_J9_abs_0f7a4 : MS mJ9_abs_0f7a4 1 := ⟨wsu_of 610 (by decide +kernel) rfl, wsu_of 67 (by decide +kernel) rfl, by decide +kernel, by decide, wsu_of 609 (by decide +kernel) rfl⟩
abbrev mX6_fine : MI := (yX6_fine, cX6_fine, 2, some .int)
theorem mv_X6_fine : MV mX6_fine 1 := ⟨wsu_of 614 (by decide +kernel) rfl, wsu_of 59 (by decide +kernel) rfl, by decide +kernel, by decide, wsu_of 612 (by decide +kernel) rfl, wsu_of 613 (by decide +kernel) rfl⟩
abbrev mX5_fineFor : MI := (yX5_fineFor, cX5_fineFor, 3, some .int)
theorem mv_X5_fineFor : MV mX5_fineFor 1 := ⟨wsu_of 618 (by decide +kernel) rfl, wsu_of 61 (by decide +kernel) rfl, by decide +kernel, by decide, wsu_of 616 (by decide +kernel) rfl, wsu_of 617 (by decide +kernel) rfl⟩
abbrev mX6_feed : MI := (yX6_feed, cX6_feed, 4, some .int)
theorem mv_X6_feed : MV mX6_feed 3 := ⟨wsu_of 622 (by decide +kernel) rfl, wsu_of 59 (by decide +kernel) rfl, by decide +kernel, by decide, wsu_of 620 (by decide +kernel) rfl, wsu_of 621 (by decide +kernel) rfl⟩
abbrev mX6_putBytes : MI := (yX6_putBytes, cX6_putBytes, 4, none)
theorem mv_X6_putBytes : MV mX6_putBytes 2 := ⟨wsu_of 626 (by decide +kernel) rfl, wsu_of 59 (by decide +kernel) rfl, by decide +kernel, by decide, wsu_of 625 (by decide +kernel) rfl, wsu_of 10 (by decide +kernel) rfl⟩
abbrev mX6_trim : MI := (yX6_trim, cX6_trim, 2, some .int)
theorem mv_X6_trim : MV mX6_trim 1 := ⟨wsu_of 630 (by decide +kernel) rfl, wsu_of 59 (by decide +kernel) rfl, by decide +kernel, by decide, wsu_of 628 (by decide +kernel) rfl, wsu_of 629 (by decide +kernel) rfl⟩
abbrev mX6_text : MI := (yX6_text, cX6_text, 3, some .int)
theorem mv_X6_text : MV mX6_text 0 := ⟨wsu_of 634 (by decide +kernel) rfl, wsu_of 59 (by decide +kernel) rfl, by decide +kernel, by decide, wsu_of 632 (by decide +kernel) rfl, wsu_of 633 (by decide +kernel) rfl⟩
abbrev mX1_readText : MI := (yX1_readText, cX1_readText, 2, some .boolean)
theorem mv_X1_readText : MV mX1_readText 1 := ⟨wsu_of 638 (by decide +kernel) rfl, wsu_of 63 (by decide +kernel) rfl, by decide +kernel, by decide, wsu_of 636 (by decide +kernel) rfl, wsu_of 637 (by decide +kernel) rfl⟩
abbrev mX1_goOn : MI := (yX1_goOn, cX1_goOn, 5, none)
theorem mv_X1_goOn : MV mX1_goOn 0 := ⟨wsu_of 642 (by decide +kernel) rfl, wsu_of 63 (by decide +kernel) rfl, by decide +kernel, by decide, wsu_of 641 (by decide +kernel) rfl, wsu_of 11 (by decide +kernel) rfl⟩
abbrev mX1_sortOf : MI := (yX1_sortOf, cX1_sortOf, 1, some .int)
theorem ms_X1_sortOf : MS mX1_sortOf 1 := ⟨wsu_of 645 (by decide +kernel) rfl, wsu_of 63 (by decide +kernel) rfl, by decide +kernel, by decide, wsu_of 644 (by decide +kernel) rfl⟩
abbrev mX1_readKey : MI := (yX1_readKey, cX1_readKey, 2, some .boolean)
theorem mv_X1_readKey : MV mX1_readKey 0 := ⟨wsu_of 649 (by decide +kernel) rfl, wsu_of 63 (by decide +kernel) rfl, by decide +kernel, by decide, wsu_of 648 (by decide +kernel) rfl, wsu_of 12 (by decide +kernel) rfl⟩
abbrev mX1_keyWord : MI := (yX1_keyWord, cX1_keyWord, 1, some (.object "java/lang/String"))
theorem ms_X1_keyWord : MS mX1_keyWord 1 := ⟨wsu_of 652 (by decide +kernel) rfl, wsu_of 63 (by decide +kernel) rfl, by decide +kernel, by decide, wsu_of 651 (by decide +kernel) rfl⟩
abbrev mX1_isWord : MI := (yX1_isWord, cX1_isWord, 3, some .boolean)
theorem mv_X1_isWord : MV mX1_isWord 1 := ⟨wsu_of 659 (by decide +kernel) rfl, wsu_of 63 (by decide +kernel) rfl, by decide +kernel, by decide, wsu_of 658 (by decide +kernel) rfl, wsu_of 13 (by decide +kernel) rfl⟩
abbrev mJ0_length_8abf5 : MI := (yJ0_length_8abf5, cJ0_length_8abf5, 1, some .int)
theorem mv_J0_length_8abf5 : MV mJ0_length_8abf5 0 := ⟨wsu_of 663 (by decide +kernel) rfl, wsu_of 69 (by decide +kernel) rfl, by decide +kernel, by decide, wsu_of 661 (by decide +kernel) rfl, wsu_of 662 (by decide +kernel) rfl⟩
abbrev mJ0_coder_7d493 : MI := (yJ0_coder_7d493, cJ0_coder_7d493, 1, some .byte)
theorem mv_J0_coder_7d493 : MV mJ0_coder_7d493 0 := ⟨wsu_of 667 (by decide +kernel) rfl, wsu_of 69 (by decide +kernel) rfl, by decide +kernel, by decide, wsu_of 665 (by decide +kernel) rfl, wsu_of 666 (by decide +kernel) rfl⟩
abbrev mJ0_charAt_5068e : MI := (yJ0_charAt_5068e, cJ0_charAt_5068e, 2, some .char)
theorem mv_J0_charAt_5068e : MV mJ0_charAt_5068e 1 := ⟨wsu_of 673 (by decide +kernel) rfl, wsu_of 69 (by decide +kernel) rfl, by decide +kernel, by decide, wsu_of 671 (by decide +kernel) rfl, wsu_of 672 (by decide +kernel) rfl⟩
abbrev mJ0_isLatin1_aae02 : MI := (yJ0_isLatin1_aae02, cJ0_isLatin1_aae02, 1, some .boolean)
theorem mv_J0_isLatin1_aae02 : MV mJ0_isLatin1_aae02 0 := ⟨wsu_of 677 (by decide +kernel) rfl, wsu_of 69 (by decide +kernel) rfl, by decide +kernel, by decide, wsu_of 675 (by decide +kernel) rfl, wsu_of 676 (by decide +kernel) rfl⟩
abbrev mJ1_charAt_3b067 : MI := (yJ1_charAt_3b067, cJ1_charAt_3b067, 2, some .char)
theorem ms_J1_charAt_3b067 : MS mJ1_charAt_3b067 2 := ⟨wsu_of 680 (by decide +kernel) rfl, wsu_of 70 (by decide +kernel) rfl, by decide +kernel, by decide, wsu_of 679 (by decide +kernel) rfl⟩
abbrev mJ0_checkIndex_df160 : MI := (yJ0_checkIndex_df160, cJ0_checkIndex_df160, 2, none)
theorem ms_J0_checkIndex_df160 : MS mJ0_checkIndex_df160 2 := ⟨wsu_of 683 (by decide +kernel) rfl, wsu_of 69 (by decide +kernel) rfl, by decide +kernel, by decide, wsu_of 682 (by decide +kernel) rfl⟩
abbrev mJ3_checkIndex_8e157 : MI := (yJ3_checkIndex_8e157, cJ3_checkIndex_8e157, 3, some .int)
theorem ms_J3_checkIndex_8e157 : MS mJ3_checkIndex_8e157 3 := ⟨wsu_of 688 (by decide +kernel) rfl, wsu_of 71 (by decide +kernel) rfl, by decide +kernel, by decide, wsu_of 687 (by decide +kernel) rfl⟩
abbrev mJ2_charAt_3b067 : MI := (yJ2_charAt_3b067, cJ2_charAt_3b067, 2, some .char)
theorem ms_J2_charAt_3b067 : MS mJ2_charAt_3b067 2 := ⟨wsu_of 691 (by decide +kernel) rfl, wsu_of 72 (by decide +kernel) rfl, by decide +kernel, by decide, wsu_of 690 (by decide +kernel) rfl⟩
abbrev mJ2_checkIndex_2214a : MI := (yJ2_checkIndex_2214a, cJ2_checkIndex_2214a, 2, none)
theorem ms_J2_checkIndex_2214a : MS mJ2_checkIndex_2214a 2 := ⟨wsu_of 694 (by decide +kernel) rfl, wsu_of 72 (by decide +kernel) rfl, by decide +kernel, by decide, wsu_of 693 (by decide +kernel) rfl⟩
abbrev mJ2_length_9d52b : MI := (yJ2_length_9d52b, cJ2_length_9d52b, 1, some .int)
theorem ms_J2_length_9d52b : MS mJ2_length_9d52b 1 := ⟨wsu_of 697 (by decide +kernel) rfl, wsu_of 72 (by decide +kernel) rfl, by decide +kernel, by decide, wsu_of 696 (by decide +kernel) rfl⟩
abbrev mJ2_getChar_3b067 : MI := (yJ2_getChar_3b067, cJ2_getChar_3b067, 2, some .char)
theorem ms_J2_getChar_3b067 : MS mJ2_getChar_3b067 2 := ⟨wsu_of 701 (by decide +kernel) rfl, wsu_of 72 (by decide +kernel) rfl, by decide +kernel, by decide, wsu_of 700 (by decide +kernel) rfl⟩
abbrev mX1_readLevel : MI := (yX1_readLevel, cX1_readLevel, 7, some .boolean)
theorem mv_X1_readLevel : MV mX1_readLevel 3 := ⟨wsu_of 711 (by decide +kernel) rfl, wsu_of 63 (by decide +kernel) rfl, by decide +kernel, by decide, wsu_of 710 (by decide +kernel) rfl, wsu_of 14 (by decide +kernel) rfl⟩
abbrev mX1_readPiece : MI := (yX1_readPiece, cX1_readPiece, 4, some .boolean)
theorem mv_X1_readPiece : MV mX1_readPiece 2 := ⟨wsu_of 715 (by decide +kernel) rfl, wsu_of 63 (by decide +kernel) rfl, by decide +kernel, by decide, wsu_of 714 (by decide +kernel) rfl, wsu_of 15 (by decide +kernel) rfl⟩
abbrev mX1_numberRead : MI := (yX1_numberRead, cX1_numberRead, 3, some .int)
theorem mv_X1_numberRead : MV mX1_numberRead 0 := ⟨wsu_of 719 (by decide +kernel) rfl, wsu_of 63 (by decide +kernel) rfl, by decide +kernel, by decide, wsu_of 718 (by decide +kernel) rfl, wsu_of 16 (by decide +kernel) rfl⟩
abbrev mX1_addOperand : MI := (yX1_addOperand, cX1_addOperand, 2, some .boolean)
theorem mv_X1_addOperand : MV mX1_addOperand 1 := ⟨wsu_of 723 (by decide +kernel) rfl, wsu_of 63 (by decide +kernel) rfl, by decide +kernel, by decide, wsu_of 722 (by decide +kernel) rfl, wsu_of 17 (by decide +kernel) rfl⟩
abbrev mX1_addStep : MI := (yX1_addStep, cX1_addStep, 2, some .boolean)
theorem mv_X1_addStep : MV mX1_addStep 1 := ⟨wsu_of 727 (by decide +kernel) rfl, wsu_of 63 (by decide +kernel) rfl, by decide +kernel, by decide, wsu_of 726 (by decide +kernel) rfl, wsu_of 18 (by decide +kernel) rfl⟩
abbrev mX1_nameRead : MI := (yX1_nameRead, cX1_nameRead, 1, some .int)
theorem mv_X1_nameRead : MV mX1_nameRead 0 := ⟨wsu_of 731 (by decide +kernel) rfl, wsu_of 63 (by decide +kernel) rfl, by decide +kernel, by decide, wsu_of 730 (by decide +kernel) rfl, wsu_of 19 (by decide +kernel) rfl⟩
abbrev mX1_namesOf : MI := (yX1_namesOf, cX1_namesOf, 1, some (.object "java/lang/String"))
theorem ms_X1_namesOf : MS mX1_namesOf 1 := ⟨wsu_of 734 (by decide +kernel) rfl, wsu_of 63 (by decide +kernel) rfl, by decide +kernel, by decide, wsu_of 733 (by decide +kernel) rfl⟩
abbrev mJ0_indexOf_0f7a4 : MI := (yJ0_indexOf_0f7a4, cJ0_indexOf_0f7a4, 2, some .int)
theorem mv_J0_indexOf_0f7a4 : MV mJ0_indexOf_0f7a4 1 := ⟨wsu_of 741 (by decide +kernel) rfl, wsu_of 69 (by decide +kernel) rfl, by decide +kernel, by decide, wsu_of 739 (by decide +kernel) rfl, wsu_of 740 (by decide +kernel) rfl⟩
abbrev mJ0_indexOf_7cf53 : MI := (yJ0_indexOf_7cf53, cJ0_indexOf_7cf53, 3, some .int)
theorem mv_J0_indexOf_7cf53 : MV mJ0_indexOf_7cf53 2 := ⟨wsu_of 745 (by decide +kernel) rfl, wsu_of 69 (by decide +kernel) rfl, by decide +kernel, by decide, wsu_of 743 (by decide +kernel) rfl, wsu_of 744 (by decide +kernel) rfl⟩
abbrev mJ1_indexOf_4cfef : MI := (yJ1_indexOf_4cfef, cJ1_indexOf_4cfef, 4, some .int)
theorem ms_J1_indexOf_4cfef : MS mJ1_indexOf_4cfef 4 := ⟨wsu_of 749 (by decide +kernel) rfl, wsu_of 70 (by decide +kernel) rfl, by decide +kernel, by decide, wsu_of 748 (by decide +kernel) rfl⟩
abbrev mJ1_canEncode_9a6ad : MI := (yJ1_canEncode_9a6ad, cJ1_canEncode_9a6ad, 1, some .boolean)
theorem ms_J1_canEncode_9a6ad : MS mJ1_canEncode_9a6ad 1 := ⟨wsu_of 752 (by decide +kernel) rfl, wsu_of 70 (by decide +kernel) rfl, by decide +kernel, by decide, wsu_of 751 (by decide +kernel) rfl⟩
abbrev mJ1_indexOfChar_4cfef : MI := (yJ1_indexOfChar_4cfef, cJ1_indexOfChar_4cfef, 6, some .int)
theorem ms_J1_indexOfChar_4cfef : MS mJ1_indexOfChar_4cfef 4 := ⟨wsu_of 757 (by decide +kernel) rfl, wsu_of 70 (by decide +kernel) rfl, by decide +kernel, by decide, wsu_of 756 (by decide +kernel) rfl⟩
abbrev mJ2_indexOf_4cfef : MI := (yJ2_indexOf_4cfef, cJ2_indexOf_4cfef, 4, some .int)
theorem ms_J2_indexOf_4cfef : MS mJ2_indexOf_4cfef 4 := ⟨wsu_of 760 (by decide +kernel) rfl, wsu_of 72 (by decide +kernel) rfl, by decide +kernel, by decide, wsu_of 759 (by decide +kernel) rfl⟩
abbrev mJ2_indexOfChar_4cfef : MI := (yJ2_indexOfChar_4cfef, cJ2_indexOfChar_4cfef, 4, some .int)
theorem ms_J2_indexOfChar_4cfef : MS mJ2_indexOfChar_4cfef 4 := ⟨wsu_of 766 (by decide +kernel) rfl, wsu_of 72 (by decide +kernel) rfl, by decide +kernel, by decide, wsu_of 765 (by decide +kernel) rfl⟩
abbrev mJ2_checkBoundsBeginEnd_d044e : MI := (yJ2_checkBoundsBeginEnd_d044e, cJ2_checkBoundsBeginEnd_d044e, 3, none)
theorem ms_J2_checkBoundsBeginEnd_d044e : MS mJ2_checkBoundsBeginEnd_d044e 3 := ⟨wsu_of 769 (by decide +kernel) rfl, wsu_of 72 (by decide +kernel) rfl, by decide +kernel, by decide, wsu_of 768 (by decide +kernel) rfl⟩
abbrev mJ0_checkBoundsBeginEnd_23922 : MI := (yJ0_checkBoundsBeginEnd_23922, cJ0_checkBoundsBeginEnd_23922, 3, none)
theorem ms_J0_checkBoundsBeginEnd_23922 : MS mJ0_checkBoundsBeginEnd_23922 3 := ⟨wsu_of 772 (by decide +kernel) rfl, wsu_of 69 (by decide +kernel) rfl, by decide +kernel, by decide, wsu_of 771 (by decide +kernel) rfl⟩
abbrev mJ3_checkFromToIndex_8c36e : MI := (yJ3_checkFromToIndex_8c36e, cJ3_checkFromToIndex_8c36e, 4, some .int)
theorem ms_J3_checkFromToIndex_8c36e : MS mJ3_checkFromToIndex_8c36e 4 := ⟨wsu_of 775 (by decide +kernel) rfl, wsu_of 71 (by decide +kernel) rfl, by decide +kernel, by decide, wsu_of 774 (by decide +kernel) rfl⟩
abbrev mJ2_indexOfCharUnsafe_4cfef : MI := (yJ2_indexOfCharUnsafe_4cfef, cJ2_indexOfCharUnsafe_4cfef, 5, some .int)
theorem ms_J2_indexOfCharUnsafe_4cfef : MS mJ2_indexOfCharUnsafe_4cfef 4 := ⟨wsu_of 778 (by decide +kernel) rfl, wsu_of 72 (by decide +kernel) rfl, by decide +kernel, by decide, wsu_of 777 (by decide +kernel) rfl⟩
abbrev mJ2_indexOfSupplementary_4cfef : MI := (yJ2_indexOfSupplementary_4cfef, cJ2_indexOfSupplementary_4cfef, 7, some .int)
theorem ms_J2_indexOfSupplementary_4cfef : MS mJ2_indexOfSupplementary_4cfef 4 := ⟨wsu_of 781 (by decide +kernel) rfl, wsu_of 72 (by decide +kernel) rfl, by decide +kernel, by decide, wsu_of 780 (by decide +kernel) rfl⟩
abbrev mJ11_isValidCodePoint_9a6ad : MI := (yJ11_isValidCodePoint_9a6ad, cJ11_isValidCodePoint_9a6ad, 2, some .boolean)
theorem ms_J11_isValidCodePoint_9a6ad : MS mJ11_isValidCodePoint_9a6ad 1 := ⟨wsu_of 784 (by decide +kernel) rfl, wsu_of 73 (by decide +kernel) rfl, by decide +kernel, by decide, wsu_of 783 (by decide +kernel) rfl⟩
abbrev mJ11_highSurrogate_5068e : MI := (yJ11_highSurrogate_5068e, cJ11_highSurrogate_5068e, 1, some .char)
theorem ms_J11_highSurrogate_5068e : MS mJ11_highSurrogate_5068e 1 := ⟨wsu_of 787 (by decide +kernel) rfl, wsu_of 73 (by decide +kernel) rfl, by decide +kernel, by decide, wsu_of 786 (by decide +kernel) rfl⟩
abbrev mJ11_lowSurrogate_5068e : MI := (yJ11_lowSurrogate_5068e, cJ11_lowSurrogate_5068e, 1, some .char)
theorem ms_J11_lowSurrogate_5068e : MS mJ11_lowSurrogate_5068e 1 := ⟨wsu_of 791 (by decide +kernel) rfl, wsu_of 73 (by decide +kernel) rfl, by decide +kernel, by decide, wsu_of 790 (by decide +kernel) rfl⟩
abbrev mX1_isSign : MI := (yX1_isSign, cX1_isSign, 2, some .boolean)
theorem mv_X1_isSign : MV mX1_isSign 1 := ⟨wsu_of 796 (by decide +kernel) rfl, wsu_of 63 (by decide +kernel) rfl, by decide +kernel, by decide, wsu_of 795 (by decide +kernel) rfl, wsu_of 20 (by decide +kernel) rfl⟩
abbrev mX1_isSignOf : MI := (yX1_isSignOf, cX1_isSignOf, 2, some .boolean)
theorem mv_X1_isSignOf : MV mX1_isSignOf 1 := ⟨wsu_of 800 (by decide +kernel) rfl, wsu_of 63 (by decide +kernel) rfl, by decide +kernel, by decide, wsu_of 799 (by decide +kernel) rfl, wsu_of 21 (by decide +kernel) rfl⟩
abbrev mX0_put : MI := (yX0_put, cX0_put, 3, none)
theorem mv_X0_put : MV mX0_put 2 := ⟨wsu_of 804 (by decide +kernel) rfl, wsu_of 60 (by decide +kernel) rfl, by decide +kernel, by decide, wsu_of 802 (by decide +kernel) rfl, wsu_of 803 (by decide +kernel) rfl⟩
abbrev mX6_textTold : MI := (yX6_textTold, cX6_textTold, 3, some .int)
theorem mv_X6_textTold : MV mX6_textTold 2 := ⟨wsu_of 810 (by decide +kernel) rfl, wsu_of 59 (by decide +kernel) rfl, by decide +kernel, by decide, wsu_of 808 (by decide +kernel) rfl, wsu_of 809 (by decide +kernel) rfl⟩
abbrev mX6_why : MI := (yX6_why, cX6_why, 2, some .int)
theorem mv_X6_why : MV mX6_why 1 := ⟨wsu_of 814 (by decide +kernel) rfl, wsu_of 59 (by decide +kernel) rfl, by decide +kernel, by decide, wsu_of 812 (by decide +kernel) rfl, wsu_of 813 (by decide +kernel) rfl⟩
abbrev mX6_sheet : MI := (yX6_sheet, cX6_sheet, 4, some .int)
theorem mv_X6_sheet : MV mX6_sheet 3 := ⟨wsu_of 818 (by decide +kernel) rfl, wsu_of 59 (by decide +kernel) rfl, by decide +kernel, by decide, wsu_of 816 (by decide +kernel) rfl, wsu_of 817 (by decide +kernel) rfl⟩
abbrev mX3_lose : MI := (yX3_lose, cX3_lose, 1, none)
theorem mv_X3_lose : MV mX3_lose 0 := ⟨wsu_of 822 (by decide +kernel) rfl, wsu_of 64 (by decide +kernel) rfl, by decide +kernel, by decide, wsu_of 820 (by decide +kernel) rfl, wsu_of 821 (by decide +kernel) rfl⟩
abbrev mX3_begin : MI := (yX3_begin, cX3_begin, 4, none)
theorem mv_X3_begin : MV mX3_begin 2 := ⟨wsu_of 827 (by decide +kernel) rfl, wsu_of 64 (by decide +kernel) rfl, by decide +kernel, by decide, wsu_of 825 (by decide +kernel) rfl, wsu_of 826 (by decide +kernel) rfl⟩
abbrev mX6_mark : MI := (yX6_mark, cX6_mark, 5, some .int)
theorem mv_X6_mark : MV mX6_mark 3 := ⟨wsu_of 831 (by decide +kernel) rfl, wsu_of 59 (by decide +kernel) rfl, by decide +kernel, by decide, wsu_of 829 (by decide +kernel) rfl, wsu_of 830 (by decide +kernel) rfl⟩
abbrev mX3_hasPlace : MI := (yX3_hasPlace, cX3_hasPlace, 2, some .boolean)
theorem mv_X3_hasPlace : MV mX3_hasPlace 1 := ⟨wsu_of 835 (by decide +kernel) rfl, wsu_of 64 (by decide +kernel) rfl, by decide +kernel, by decide, wsu_of 833 (by decide +kernel) rfl, wsu_of 834 (by decide +kernel) rfl⟩
abbrev mX3_write : MI := (yX3_write, cX3_write, 3, some .int)
theorem mv_X3_write : MV mX3_write 2 := ⟨wsu_of 840 (by decide +kernel) rfl, wsu_of 64 (by decide +kernel) rfl, by decide +kernel, by decide, wsu_of 838 (by decide +kernel) rfl, wsu_of 839 (by decide +kernel) rfl⟩
abbrev mX6_pour : MI := (yX6_pour, cX6_pour, 6, some .int)
theorem mv_X6_pour : MV mX6_pour 1 := ⟨wsu_of 845 (by decide +kernel) rfl, wsu_of 59 (by decide +kernel) rfl, by decide +kernel, by decide, wsu_of 843 (by decide +kernel) rfl, wsu_of 844 (by decide +kernel) rfl⟩
abbrev mX6_reads : MI := (yX6_reads, cX6_reads, 4, some .int)
theorem mv_X6_reads : MV mX6_reads 1 := ⟨wsu_of 849 (by decide +kernel) rfl, wsu_of 59 (by decide +kernel) rfl, by decide +kernel, by decide, wsu_of 847 (by decide +kernel) rfl, wsu_of 848 (by decide +kernel) rfl⟩
abbrev mX6_copy : MI := (yX6_copy, cX6_copy, 8, some .int)
theorem mv_X6_copy : MV mX6_copy 5 := ⟨wsu_of 853 (by decide +kernel) rfl, wsu_of 59 (by decide +kernel) rfl, by decide +kernel, by decide, wsu_of 851 (by decide +kernel) rfl, wsu_of 852 (by decide +kernel) rfl⟩
abbrev mX3_hasPlaces : MI := (yX3_hasPlaces, cX3_hasPlaces, 3, some .boolean)
theorem mv_X3_hasPlaces : MV mX3_hasPlaces 2 := ⟨wsu_of 857 (by decide +kernel) rfl, wsu_of 64 (by decide +kernel) rfl, by decide +kernel, by decide, wsu_of 855 (by decide +kernel) rfl, wsu_of 856 (by decide +kernel) rfl⟩
abbrev mX6_lay : MI := (yX6_lay, cX6_lay, 6, some .int)
theorem mv_X6_lay : MV mX6_lay 3 := ⟨wsu_of 862 (by decide +kernel) rfl, wsu_of 59 (by decide +kernel) rfl, by decide +kernel, by decide, wsu_of 860 (by decide +kernel) rfl, wsu_of 861 (by decide +kernel) rfl⟩
abbrev mX6_isSlot : MI := (yX6_isSlot, cX6_isSlot, 1, some .boolean)
theorem ms_X6_isSlot : MS mX6_isSlot 1 := ⟨wsu_of 865 (by decide +kernel) rfl, wsu_of 59 (by decide +kernel) rfl, by decide +kernel, by decide, wsu_of 864 (by decide +kernel) rfl⟩
abbrev mX3_become : MI := (yX3_become, cX3_become, 2, none)
theorem mv_X3_become : MV mX3_become 1 := ⟨wsu_of 870 (by decide +kernel) rfl, wsu_of 64 (by decide +kernel) rfl, by decide +kernel, by decide, wsu_of 868 (by decide +kernel) rfl, wsu_of 869 (by decide +kernel) rfl⟩
abbrev mX6_ask : MI := (yX6_ask, cX6_ask, 5, some .int)
theorem mv_X6_ask : MV mX6_ask 2 := ⟨wsu_of 875 (by decide +kernel) rfl, wsu_of 59 (by decide +kernel) rfl, by decide +kernel, by decide, wsu_of 873 (by decide +kernel) rfl, wsu_of 874 (by decide +kernel) rfl⟩
abbrev mX4_findingFor : MI := (yX4_findingFor, cX4_findingFor, 2, some .int)
theorem mv_X4_findingFor : MV mX4_findingFor 1 := ⟨wsu_of 879 (by decide +kernel) rfl, wsu_of 65 (by decide +kernel) rfl, by decide +kernel, by decide, wsu_of 877 (by decide +kernel) rfl, wsu_of 878 (by decide +kernel) rfl⟩
abbrev mX6_item : MI := (yX6_item, cX6_item, 5, some .int)
theorem mv_X6_item : MV mX6_item 2 := ⟨wsu_of 885 (by decide +kernel) rfl, wsu_of 59 (by decide +kernel) rfl, by decide +kernel, by decide, wsu_of 883 (by decide +kernel) rfl, wsu_of 884 (by decide +kernel) rfl⟩
abbrev mX6_rest : MI := (yX6_rest, cX6_rest, 4, some .int)
theorem mv_X6_rest : MV mX6_rest 2 := ⟨wsu_of 889 (by decide +kernel) rfl, wsu_of 59 (by decide +kernel) rfl, by decide +kernel, by decide, wsu_of 887 (by decide +kernel) rfl, wsu_of 888 (by decide +kernel) rfl⟩
abbrev mX6_tell : MI := (yX6_tell, cX6_tell, 2, some .int)
theorem mv_X6_tell : MV mX6_tell 1 := ⟨wsu_of 894 (by decide +kernel) rfl, wsu_of 59 (by decide +kernel) rfl, by decide +kernel, by decide, wsu_of 892 (by decide +kernel) rfl, wsu_of 893 (by decide +kernel) rfl⟩
abbrev mX6_check : MI := (yX6_check, cX6_check, 5, some .int)
theorem mv_X6_check : MV mX6_check 1 := ⟨wsu_of 898 (by decide +kernel) rfl, wsu_of 59 (by decide +kernel) rfl, by decide +kernel, by decide, wsu_of 896 (by decide +kernel) rfl, wsu_of 897 (by decide +kernel) rfl⟩
abbrev mX6_isWaiting : MI := (yX6_isWaiting, cX6_isWaiting, 4, some .boolean)
theorem mv_X6_isWaiting : MV mX6_isWaiting 3 := ⟨wsu_of 903 (by decide +kernel) rfl, wsu_of 59 (by decide +kernel) rfl, by decide +kernel, by decide, wsu_of 902 (by decide +kernel) rfl, wsu_of 22 (by decide +kernel) rfl⟩
abbrev mX6_keep : MI := (yX6_keep, cX6_keep, 1, some .int)
theorem mv_X6_keep : MV mX6_keep 0 := ⟨wsu_of 907 (by decide +kernel) rfl, wsu_of 59 (by decide +kernel) rfl, by decide +kernel, by decide, wsu_of 905 (by decide +kernel) rfl, wsu_of 906 (by decide +kernel) rfl⟩
abbrev mX6_back : MI := (yX6_back, cX6_back, 1, some .int)
theorem mv_X6_back : MV mX6_back 0 := ⟨wsu_of 911 (by decide +kernel) rfl, wsu_of 59 (by decide +kernel) rfl, by decide +kernel, by decide, wsu_of 909 (by decide +kernel) rfl, wsu_of 910 (by decide +kernel) rfl⟩
abbrev mX6_count : MI := (yX6_count, cX6_count, 2, some .int)
theorem mv_X6_count : MV mX6_count 1 := ⟨wsu_of 915 (by decide +kernel) rfl, wsu_of 59 (by decide +kernel) rfl, by decide +kernel, by decide, wsu_of 913 (by decide +kernel) rfl, wsu_of 914 (by decide +kernel) rfl⟩
abbrev mX7_init : MI := (yX7_init, cX7_init, 1, none)
abbrev mX7_roof : MI := (yX7_roof, cX7_roof, 3, some .int)
theorem mv_X7_roof : MV mX7_roof 2 := ⟨wsu_of 1028 (by decide +kernel) rfl, wsu_of 66 (by decide +kernel) rfl, by decide +kernel, by decide, wsu_of 1026 (by decide +kernel) rfl, wsu_of 1027 (by decide +kernel) rfl⟩
abbrev mX7_in : MI := (yX7_in, cX7_in, 3, some .boolean)
theorem ms_X7_in : MS mX7_in 3 := ⟨wsu_of 1031 (by decide +kernel) rfl, wsu_of 66 (by decide +kernel) rfl, by decide +kernel, by decide, wsu_of 1030 (by decide +kernel) rfl⟩
abbrev mX7_comes : MI := (yX7_comes, cX7_comes, 5, some .int)
theorem mv_X7_comes : MV mX7_comes 2 := ⟨wsu_of 1037 (by decide +kernel) rfl, wsu_of 66 (by decide +kernel) rfl, by decide +kernel, by decide, wsu_of 1036 (by decide +kernel) rfl, wsu_of 23 (by decide +kernel) rfl⟩
abbrev mX7_put : MI := (yX7_put, cX7_put, 4, none)
theorem mv_X7_put : MV mX7_put 3 := ⟨wsu_of 1041 (by decide +kernel) rfl, wsu_of 66 (by decide +kernel) rfl, by decide +kernel, by decide, wsu_of 1040 (by decide +kernel) rfl, wsu_of 24 (by decide +kernel) rfl⟩
abbrev mX7_told : MI := (yX7_told, cX7_told, 3, some .int)
theorem mv_X7_told : MV mX7_told 2 := ⟨wsu_of 1045 (by decide +kernel) rfl, wsu_of 66 (by decide +kernel) rfl, by decide +kernel, by decide, wsu_of 1043 (by decide +kernel) rfl, wsu_of 1044 (by decide +kernel) rfl⟩
abbrev mX7_isRoof : MI := (yX7_isRoof, cX7_isRoof, 2, some .boolean)
theorem mv_X7_isRoof : MV mX7_isRoof 1 := ⟨wsu_of 1049 (by decide +kernel) rfl, wsu_of 66 (by decide +kernel) rfl, by decide +kernel, by decide, wsu_of 1048 (by decide +kernel) rfl, wsu_of 25 (by decide +kernel) rfl⟩
abbrev mX7_of : MI := (yX7_of, cX7_of, 3, some .int)
theorem mv_X7_of : MV mX7_of 2 := ⟨wsu_of 1053 (by decide +kernel) rfl, wsu_of 66 (by decide +kernel) rfl, by decide +kernel, by decide, wsu_of 1052 (by decide +kernel) rfl, wsu_of 26 (by decide +kernel) rfl⟩
abbrev mX7_warmthOf : MI := (yX7_warmthOf, cX7_warmthOf, 2, some .int)
theorem mv_X7_warmthOf : MV mX7_warmthOf 1 := ⟨wsu_of 1057 (by decide +kernel) rfl, wsu_of 66 (by decide +kernel) rfl, by decide +kernel, by decide, wsu_of 1056 (by decide +kernel) rfl, wsu_of 27 (by decide +kernel) rfl⟩
abbrev mX7_hourOfDay : MI := (yX7_hourOfDay, cX7_hourOfDay, 1, some .int)
theorem mv_X7_hourOfDay : MV mX7_hourOfDay 0 := ⟨wsu_of 1061 (by decide +kernel) rfl, wsu_of 66 (by decide +kernel) rfl, by decide +kernel, by decide, wsu_of 1060 (by decide +kernel) rfl, wsu_of 28 (by decide +kernel) rfl⟩
abbrev mX7_meltsOf : MI := (yX7_meltsOf, cX7_meltsOf, 7, some .int)
theorem mv_X7_meltsOf : MV mX7_meltsOf 1 := ⟨wsu_of 1065 (by decide +kernel) rfl, wsu_of 66 (by decide +kernel) rfl, by decide +kernel, by decide, wsu_of 1064 (by decide +kernel) rfl, wsu_of 29 (by decide +kernel) rfl⟩
abbrev mX7_counts : MI := (yX7_counts, cX7_counts, 3, some .int)
theorem mv_X7_counts : MV mX7_counts 1 := ⟨wsu_of 1069 (by decide +kernel) rfl, wsu_of 66 (by decide +kernel) rfl, by decide +kernel, by decide, wsu_of 1068 (by decide +kernel) rfl, wsu_of 30 (by decide +kernel) rfl⟩
abbrev mX7_within : MI := (yX7_within, cX7_within, 3, some .int)
theorem ms_X7_within : MS mX7_within 3 := ⟨wsu_of 1072 (by decide +kernel) rfl, wsu_of 66 (by decide +kernel) rfl, by decide +kernel, by decide, wsu_of 1071 (by decide +kernel) rfl⟩
abbrev mX7_worksOut : MI := (yX7_worksOut, cX7_worksOut, 6, some .int)
theorem mv_X7_worksOut : MV mX7_worksOut 1 := ⟨wsu_of 1076 (by decide +kernel) rfl, wsu_of 66 (by decide +kernel) rfl, by decide +kernel, by decide, wsu_of 1075 (by decide +kernel) rfl, wsu_of 31 (by decide +kernel) rfl⟩
abbrev mX7_two : MI := (yX7_two, cX7_two, 3, some .int)
theorem ms_X7_two : MS mX7_two 3 := ⟨wsu_of 1079 (by decide +kernel) rfl, wsu_of 66 (by decide +kernel) rfl, by decide +kernel, by decide, wsu_of 1078 (by decide +kernel) rfl⟩
abbrev mX7_bearsOf : MI := (yX7_bearsOf, cX7_bearsOf, 3, some .int)
theorem mv_X7_bearsOf : MV mX7_bearsOf 1 := ⟨wsu_of 1083 (by decide +kernel) rfl, wsu_of 66 (by decide +kernel) rfl, by decide +kernel, by decide, wsu_of 1082 (by decide +kernel) rfl, wsu_of 32 (by decide +kernel) rfl⟩
abbrev mX7_owns : MI := (yX7_owns, cX7_owns, 3, some .boolean)
theorem mv_X7_owns : MV mX7_owns 1 := ⟨wsu_of 1087 (by decide +kernel) rfl, wsu_of 66 (by decide +kernel) rfl, by decide +kernel, by decide, wsu_of 1086 (by decide +kernel) rfl, wsu_of 33 (by decide +kernel) rfl⟩
abbrev mX7_worthOf : MI := (yX7_worthOf, cX7_worthOf, 3, some .int)
theorem mv_X7_worthOf : MV mX7_worthOf 1 := ⟨wsu_of 1091 (by decide +kernel) rfl, wsu_of 66 (by decide +kernel) rfl, by decide +kernel, by decide, wsu_of 1090 (by decide +kernel) rfl, wsu_of 34 (by decide +kernel) rfl⟩
abbrev mX7_as : MI := (yX7_as, cX7_as, 3, some .int)
theorem mv_X7_as : MV mX7_as 2 := ⟨wsu_of 1095 (by decide +kernel) rfl, wsu_of 66 (by decide +kernel) rfl, by decide +kernel, by decide, wsu_of 1093 (by decide +kernel) rfl, wsu_of 1094 (by decide +kernel) rfl⟩
abbrev mX7_isUnder : MI := (yX7_isUnder, cX7_isUnder, 2, some .boolean)
theorem ms_X7_isUnder : MS mX7_isUnder 2 := ⟨wsu_of 1098 (by decide +kernel) rfl, wsu_of 66 (by decide +kernel) rfl, by decide +kernel, by decide, wsu_of 1097 (by decide +kernel) rfl⟩
abbrev mX7_turns : MI := (yX7_turns, cX7_turns, 3, some .int)
theorem mv_X7_turns : MV mX7_turns 2 := ⟨wsu_of 1103 (by decide +kernel) rfl, wsu_of 66 (by decide +kernel) rfl, by decide +kernel, by decide, wsu_of 1101 (by decide +kernel) rfl, wsu_of 1102 (by decide +kernel) rfl⟩
abbrev mX7_becomes : MI := (yX7_becomes, cX7_becomes, 4, some .int)
theorem mv_X7_becomes : MV mX7_becomes 2 := ⟨wsu_of 1107 (by decide +kernel) rfl, wsu_of 66 (by decide +kernel) rfl, by decide +kernel, by decide, wsu_of 1106 (by decide +kernel) rfl, wsu_of 35 (by decide +kernel) rfl⟩
abbrev mX7_set : MI := (yX7_set, cX7_set, 5, some .int)
theorem mv_X7_set : MV mX7_set 3 := ⟨wsu_of 1111 (by decide +kernel) rfl, wsu_of 66 (by decide +kernel) rfl, by decide +kernel, by decide, wsu_of 1109 (by decide +kernel) rfl, wsu_of 1110 (by decide +kernel) rfl⟩
abbrev mX7_rains : MI := (yX7_rains, cX7_rains, 4, none)
theorem mv_X7_rains : MV mX7_rains 2 := ⟨wsu_of 1115 (by decide +kernel) rfl, wsu_of 66 (by decide +kernel) rfl, by decide +kernel, by decide, wsu_of 1114 (by decide +kernel) rfl, wsu_of 36 (by decide +kernel) rfl⟩
abbrev mX7_sweep : MI := (yX7_sweep, cX7_sweep, 4, some .int)
theorem mv_X7_sweep : MV mX7_sweep 2 := ⟨wsu_of 1119 (by decide +kernel) rfl, wsu_of 66 (by decide +kernel) rfl, by decide +kernel, by decide, wsu_of 1117 (by decide +kernel) rfl, wsu_of 1118 (by decide +kernel) rfl⟩
abbrev mX7_use : MI := (yX7_use, cX7_use, 4, some .int)
theorem mv_X7_use : MV mX7_use 2 := ⟨wsu_of 1123 (by decide +kernel) rfl, wsu_of 66 (by decide +kernel) rfl, by decide +kernel, by decide, wsu_of 1121 (by decide +kernel) rfl, wsu_of 1122 (by decide +kernel) rfl⟩
abbrev mX7_deal : MI := (yX7_deal, cX7_deal, 5, some .int)
theorem mv_X7_deal : MV mX7_deal 1 := ⟨wsu_of 1127 (by decide +kernel) rfl, wsu_of 66 (by decide +kernel) rfl, by decide +kernel, by decide, wsu_of 1125 (by decide +kernel) rfl, wsu_of 1126 (by decide +kernel) rfl⟩
abbrev mX7_draw : MI := (yX7_draw, cX7_draw, 1, some .int)
theorem mv_X7_draw : MV mX7_draw 0 := ⟨wsu_of 1131 (by decide +kernel) rfl, wsu_of 66 (by decide +kernel) rfl, by decide +kernel, by decide, wsu_of 1130 (by decide +kernel) rfl, wsu_of 37 (by decide +kernel) rfl⟩
abbrev mX7_seed : MI := (yX7_seed, cX7_seed, 2, some .int)
theorem mv_X7_seed : MV mX7_seed 1 := ⟨wsu_of 1136 (by decide +kernel) rfl, wsu_of 66 (by decide +kernel) rfl, by decide +kernel, by decide, wsu_of 1134 (by decide +kernel) rfl, wsu_of 1135 (by decide +kernel) rfl⟩
abbrev mX7_weather : MI := (yX7_weather, cX7_weather, 4, some .int)
theorem mv_X7_weather : MV mX7_weather 3 := ⟨wsu_of 1140 (by decide +kernel) rfl, wsu_of 66 (by decide +kernel) rfl, by decide +kernel, by decide, wsu_of 1138 (by decide +kernel) rfl, wsu_of 1139 (by decide +kernel) rfl⟩
abbrev mX7_sky : MI := (yX7_sky, cX7_sky, 3, some .int)
theorem mv_X7_sky : MV mX7_sky 0 := ⟨wsu_of 1144 (by decide +kernel) rfl, wsu_of 66 (by decide +kernel) rfl, by decide +kernel, by decide, wsu_of 1142 (by decide +kernel) rfl, wsu_of 1143 (by decide +kernel) rfl⟩
abbrev mX7_sunset : MI := (yX7_sunset, cX7_sunset, 2, some .int)
theorem mv_X7_sunset : MV mX7_sunset 1 := ⟨wsu_of 1148 (by decide +kernel) rfl, wsu_of 66 (by decide +kernel) rfl, by decide +kernel, by decide, wsu_of 1146 (by decide +kernel) rfl, wsu_of 1147 (by decide +kernel) rfl⟩
abbrev mX7_run : MI := (yX7_run, cX7_run, 2, some .int)
theorem mv_X7_run : MV mX7_run 1 := ⟨wsu_of 1152 (by decide +kernel) rfl, wsu_of 66 (by decide +kernel) rfl, by decide +kernel, by decide, wsu_of 1150 (by decide +kernel) rfl, wsu_of 1151 (by decide +kernel) rfl⟩
abbrev mX7_hours : MI := (yX7_hours, cX7_hours, 4, some .int)
theorem mv_X7_hours : MV mX7_hours 1 := ⟨wsu_of 1156 (by decide +kernel) rfl, wsu_of 66 (by decide +kernel) rfl, by decide +kernel, by decide, wsu_of 1155 (by decide +kernel) rfl, wsu_of 38 (by decide +kernel) rfl⟩
abbrev mX7_hour : MI := (yX7_hour, cX7_hour, 6, some .int)
theorem mv_X7_hour : MV mX7_hour 0 := ⟨wsu_of 1160 (by decide +kernel) rfl, wsu_of 66 (by decide +kernel) rfl, by decide +kernel, by decide, wsu_of 1159 (by decide +kernel) rfl, wsu_of 39 (by decide +kernel) rfl⟩
abbrev mX7_falls : MI := (yX7_falls, cX7_falls, 5, none)
theorem mv_X7_falls : MV mX7_falls 2 := ⟨wsu_of 1164 (by decide +kernel) rfl, wsu_of 66 (by decide +kernel) rfl, by decide +kernel, by decide, wsu_of 1163 (by decide +kernel) rfl, wsu_of 40 (by decide +kernel) rfl⟩
abbrev mX7_snows : MI := (yX7_snows, cX7_snows, 4, none)
theorem mv_X7_snows : MV mX7_snows 2 := ⟨wsu_of 1168 (by decide +kernel) rfl, wsu_of 66 (by decide +kernel) rfl, by decide +kernel, by decide, wsu_of 1167 (by decide +kernel) rfl, wsu_of 41 (by decide +kernel) rfl⟩
abbrev mX7_slides : MI := (yX7_slides, cX7_slides, 4, some .int)
theorem mv_X7_slides : MV mX7_slides 0 := ⟨wsu_of 1172 (by decide +kernel) rfl, wsu_of 66 (by decide +kernel) rfl, by decide +kernel, by decide, wsu_of 1171 (by decide +kernel) rfl, wsu_of 42 (by decide +kernel) rfl⟩
abbrev mX7_kilos : MI := (yX7_kilos, cX7_kilos, 2, some .int)
theorem mv_X7_kilos : MV mX7_kilos 1 := ⟨wsu_of 1176 (by decide +kernel) rfl, wsu_of 66 (by decide +kernel) rfl, by decide +kernel, by decide, wsu_of 1174 (by decide +kernel) rfl, wsu_of 1175 (by decide +kernel) rfl⟩
abbrev mX7_sumOf : MI := (yX7_sumOf, cX7_sumOf, 4, some .int)
theorem mv_X7_sumOf : MV mX7_sumOf 1 := ⟨wsu_of 1180 (by decide +kernel) rfl, wsu_of 66 (by decide +kernel) rfl, by decide +kernel, by decide, wsu_of 1179 (by decide +kernel) rfl, wsu_of 43 (by decide +kernel) rfl⟩
abbrev mX7_behind : MI := (yX7_behind, cX7_behind, 4, some .int)
theorem mv_X7_behind : MV mX7_behind 3 := ⟨wsu_of 1184 (by decide +kernel) rfl, wsu_of 66 (by decide +kernel) rfl, by decide +kernel, by decide, wsu_of 1182 (by decide +kernel) rfl, wsu_of 1183 (by decide +kernel) rfl⟩
abbrev mX7_thinks : MI := (yX7_thinks, cX7_thinks, 2, none)
theorem mv_X7_thinks : MV mX7_thinks 0 := ⟨wsu_of 1188 (by decide +kernel) rfl, wsu_of 66 (by decide +kernel) rfl, by decide +kernel, by decide, wsu_of 1187 (by decide +kernel) rfl, wsu_of 44 (by decide +kernel) rfl⟩
abbrev mX7_waterAt : MI := (yX7_waterAt, cX7_waterAt, 1, some .int)
theorem ms_X7_waterAt : MS mX7_waterAt 1 := ⟨wsu_of 1191 (by decide +kernel) rfl, wsu_of 66 (by decide +kernel) rfl, by decide +kernel, by decide, wsu_of 1190 (by decide +kernel) rfl⟩
abbrev mX7_behindIt : MI := (yX7_behindIt, cX7_behindIt, 5, some .int)
theorem mv_X7_behindIt : MV mX7_behindIt 2 := ⟨wsu_of 1195 (by decide +kernel) rfl, wsu_of 66 (by decide +kernel) rfl, by decide +kernel, by decide, wsu_of 1194 (by decide +kernel) rfl, wsu_of 45 (by decide +kernel) rfl⟩
abbrev mX7_putsBack : MI := (yX7_putsBack, cX7_putsBack, 2, none)
theorem mv_X7_putsBack : MV mX7_putsBack 0 := ⟨wsu_of 1199 (by decide +kernel) rfl, wsu_of 66 (by decide +kernel) rfl, by decide +kernel, by decide, wsu_of 1198 (by decide +kernel) rfl, wsu_of 46 (by decide +kernel) rfl⟩
abbrev mX7_best : MI := (yX7_best, cX7_best, 8, some .int)
theorem mv_X7_best : MV mX7_best 3 := ⟨wsu_of 1203 (by decide +kernel) rfl, wsu_of 66 (by decide +kernel) rfl, by decide +kernel, by decide, wsu_of 1201 (by decide +kernel) rfl, wsu_of 1202 (by decide +kernel) rfl⟩
abbrev mX7_leastRoom : MI := (yX7_leastRoom, cX7_leastRoom, 6, some .int)
theorem mv_X7_leastRoom : MV mX7_leastRoom 2 := ⟨wsu_of 1207 (by decide +kernel) rfl, wsu_of 66 (by decide +kernel) rfl, by decide +kernel, by decide, wsu_of 1205 (by decide +kernel) rfl, wsu_of 1206 (by decide +kernel) rfl⟩
abbrev mX7_slide : MI := (yX7_slide, cX7_slide, 2, some .int)
theorem mv_X7_slide : MV mX7_slide 0 := ⟨wsu_of 1212 (by decide +kernel) rfl, wsu_of 66 (by decide +kernel) rfl, by decide +kernel, by decide, wsu_of 1210 (by decide +kernel) rfl, wsu_of 1211 (by decide +kernel) rfl⟩
abbrev mX7_gains : MI := (yX7_gains, cX7_gains, 8, some .int)
theorem mv_X7_gains : MV mX7_gains 2 := ⟨wsu_of 1217 (by decide +kernel) rfl, wsu_of 66 (by decide +kernel) rfl, by decide +kernel, by decide, wsu_of 1215 (by decide +kernel) rfl, wsu_of 1216 (by decide +kernel) rfl⟩
abbrev mX7_told0 : MI := (yX7_told0, cX7_told0, 1, some .int)
theorem ms_X7_told0 : MS mX7_told0 1 := ⟨wsu_of 1220 (by decide +kernel) rfl, wsu_of 66 (by decide +kernel) rfl, by decide +kernel, by decide, wsu_of 1219 (by decide +kernel) rfl⟩
abbrev mX7_explained : MI := (yX7_explained, cX7_explained, 9, some .int)
theorem mv_X7_explained : MV mX7_explained 2 := ⟨wsu_of 1224 (by decide +kernel) rfl, wsu_of 66 (by decide +kernel) rfl, by decide +kernel, by decide, wsu_of 1222 (by decide +kernel) rfl, wsu_of 1223 (by decide +kernel) rfl⟩
abbrev mX7_isSheet : MI := (yX7_isSheet, cX7_isSheet, 1, some .boolean)
theorem ms_X7_isSheet : MS mX7_isSheet 1 := ⟨wsu_of 1227 (by decide +kernel) rfl, wsu_of 66 (by decide +kernel) rfl, by decide +kernel, by decide, wsu_of 1226 (by decide +kernel) rfl⟩
abbrev mX7_offBy : MI := (yX7_offBy, cX7_offBy, 10, some .long)
theorem mv_X7_offBy : MV mX7_offBy 2 := ⟨wsu_of 1232 (by decide +kernel) rfl, wsu_of 66 (by decide +kernel) rfl, by decide +kernel, by decide, wsu_of 1231 (by decide +kernel) rfl, wsu_of 47 (by decide +kernel) rfl⟩
abbrev mX7_fine : MI := (yX7_fine, cX7_fine, 3, some .int)
theorem mv_X7_fine : MV mX7_fine 1 := ⟨wsu_of 1236 (by decide +kernel) rfl, wsu_of 66 (by decide +kernel) rfl, by decide +kernel, by decide, wsu_of 1234 (by decide +kernel) rfl, wsu_of 1235 (by decide +kernel) rfl⟩
abbrev mX7_feed : MI := (yX7_feed, cX7_feed, 6, some .int)
theorem mv_X7_feed : MV mX7_feed 3 := ⟨wsu_of 1240 (by decide +kernel) rfl, wsu_of 66 (by decide +kernel) rfl, by decide +kernel, by decide, wsu_of 1238 (by decide +kernel) rfl, wsu_of 1239 (by decide +kernel) rfl⟩
abbrev mX7_trim : MI := (yX7_trim, cX7_trim, 2, some .int)
theorem mv_X7_trim : MV mX7_trim 1 := ⟨wsu_of 1244 (by decide +kernel) rfl, wsu_of 66 (by decide +kernel) rfl, by decide +kernel, by decide, wsu_of 1242 (by decide +kernel) rfl, wsu_of 1243 (by decide +kernel) rfl⟩
abbrev mX7_text : MI := (yX7_text, cX7_text, 4, some .int)
theorem mv_X7_text : MV mX7_text 0 := ⟨wsu_of 1248 (by decide +kernel) rfl, wsu_of 66 (by decide +kernel) rfl, by decide +kernel, by decide, wsu_of 1246 (by decide +kernel) rfl, wsu_of 1247 (by decide +kernel) rfl⟩
abbrev mX7_go : MI := (yX7_go, cX7_go, 2, none)
theorem mv_X7_go : MV mX7_go 0 := ⟨wsu_of 1252 (by decide +kernel) rfl, wsu_of 66 (by decide +kernel) rfl, by decide +kernel, by decide, wsu_of 1251 (by decide +kernel) rfl, wsu_of 48 (by decide +kernel) rfl⟩
abbrev mX7_isLetter : MI := (yX7_isLetter, cX7_isLetter, 2, some .boolean)
theorem mv_X7_isLetter : MV mX7_isLetter 1 := ⟨wsu_of 1256 (by decide +kernel) rfl, wsu_of 66 (by decide +kernel) rfl, by decide +kernel, by decide, wsu_of 1255 (by decide +kernel) rfl, wsu_of 49 (by decide +kernel) rfl⟩
abbrev mX7_isFigure : MI := (yX7_isFigure, cX7_isFigure, 2, some .boolean)
theorem mv_X7_isFigure : MV mX7_isFigure 1 := ⟨wsu_of 1260 (by decide +kernel) rfl, wsu_of 66 (by decide +kernel) rfl, by decide +kernel, by decide, wsu_of 1259 (by decide +kernel) rfl, wsu_of 50 (by decide +kernel) rfl⟩
abbrev mX7_takesKey : MI := (yX7_takesKey, cX7_takesKey, 5, some .boolean)
theorem mv_X7_takesKey : MV mX7_takesKey 0 := ⟨wsu_of 1264 (by decide +kernel) rfl, wsu_of 66 (by decide +kernel) rfl, by decide +kernel, by decide, wsu_of 1263 (by decide +kernel) rfl, wsu_of 51 (by decide +kernel) rfl⟩
abbrev mX7_takesE : MI := (yX7_takesE, cX7_takesE, 5, some .boolean)
theorem mv_X7_takesE : MV mX7_takesE 0 := ⟨wsu_of 1268 (by decide +kernel) rfl, wsu_of 66 (by decide +kernel) rfl, by decide +kernel, by decide, wsu_of 1267 (by decide +kernel) rfl, wsu_of 52 (by decide +kernel) rfl⟩
abbrev mX7_takesPart : MI := (yX7_takesPart, cX7_takesPart, 2, some .boolean)
theorem mv_X7_takesPart : MV mX7_takesPart 0 := ⟨wsu_of 1272 (by decide +kernel) rfl, wsu_of 66 (by decide +kernel) rfl, by decide +kernel, by decide, wsu_of 1271 (by decide +kernel) rfl, wsu_of 53 (by decide +kernel) rfl⟩
abbrev mX7_nameOf : MI := (yX7_nameOf, cX7_nameOf, 2, some .int)
theorem mv_X7_nameOf : MV mX7_nameOf 1 := ⟨wsu_of 1276 (by decide +kernel) rfl, wsu_of 66 (by decide +kernel) rfl, by decide +kernel, by decide, wsu_of 1275 (by decide +kernel) rfl, wsu_of 54 (by decide +kernel) rfl⟩
abbrev mX7_settle : MI := (yX7_settle, cX7_settle, 2, none)
theorem mv_X7_settle : MV mX7_settle 1 := ⟨wsu_of 1280 (by decide +kernel) rfl, wsu_of 66 (by decide +kernel) rfl, by decide +kernel, by decide, wsu_of 1279 (by decide +kernel) rfl, wsu_of 55 (by decide +kernel) rfl⟩
abbrev mX7_rank : MI := (yX7_rank, cX7_rank, 1, some .int)
theorem ms_X7_rank : MS mX7_rank 1 := ⟨wsu_of 1283 (by decide +kernel) rfl, wsu_of 66 (by decide +kernel) rfl, by decide +kernel, by decide, wsu_of 1282 (by decide +kernel) rfl⟩
abbrev mX7_notsOpen : MI := (yX7_notsOpen, cX7_notsOpen, 3, some .int)
theorem mv_X7_notsOpen : MV mX7_notsOpen 0 := ⟨wsu_of 1287 (by decide +kernel) rfl, wsu_of 66 (by decide +kernel) rfl, by decide +kernel, by decide, wsu_of 1286 (by decide +kernel) rfl, wsu_of 56 (by decide +kernel) rfl⟩
abbrev mX7_signHere : MI := (yX7_signHere, cX7_signHere, 1, some .int)
theorem mv_X7_signHere : MV mX7_signHere 0 := ⟨wsu_of 1291 (by decide +kernel) rfl, wsu_of 66 (by decide +kernel) rfl, by decide +kernel, by decide, wsu_of 1290 (by decide +kernel) rfl, wsu_of 57 (by decide +kernel) rfl⟩
abbrev mX7_textTold : MI := (yX7_textTold, cX7_textTold, 3, some .int)
theorem mv_X7_textTold : MV mX7_textTold 2 := ⟨wsu_of 1295 (by decide +kernel) rfl, wsu_of 66 (by decide +kernel) rfl, by decide +kernel, by decide, wsu_of 1293 (by decide +kernel) rfl, wsu_of 1294 (by decide +kernel) rfl⟩
abbrev mX7_why : MI := (yX7_why, cX7_why, 3, some .int)
theorem mv_X7_why : MV mX7_why 1 := ⟨wsu_of 1299 (by decide +kernel) rfl, wsu_of 66 (by decide +kernel) rfl, by decide +kernel, by decide, wsu_of 1297 (by decide +kernel) rfl, wsu_of 1298 (by decide +kernel) rfl⟩
abbrev mX7_sheet : MI := (yX7_sheet, cX7_sheet, 5, some .int)
theorem mv_X7_sheet : MV mX7_sheet 3 := ⟨wsu_of 1303 (by decide +kernel) rfl, wsu_of 66 (by decide +kernel) rfl, by decide +kernel, by decide, wsu_of 1301 (by decide +kernel) rfl, wsu_of 1302 (by decide +kernel) rfl⟩
abbrev mX7_mark : MI := (yX7_mark, cX7_mark, 4, some .int)
theorem mv_X7_mark : MV mX7_mark 3 := ⟨wsu_of 1308 (by decide +kernel) rfl, wsu_of 66 (by decide +kernel) rfl, by decide +kernel, by decide, wsu_of 1306 (by decide +kernel) rfl, wsu_of 1307 (by decide +kernel) rfl⟩
abbrev mX7_pour : MI := (yX7_pour, cX7_pour, 6, some .int)
theorem mv_X7_pour : MV mX7_pour 1 := ⟨wsu_of 1314 (by decide +kernel) rfl, wsu_of 66 (by decide +kernel) rfl, by decide +kernel, by decide, wsu_of 1312 (by decide +kernel) rfl, wsu_of 1313 (by decide +kernel) rfl⟩
abbrev mX7_reads : MI := (yX7_reads, cX7_reads, 4, some .int)
theorem mv_X7_reads : MV mX7_reads 1 := ⟨wsu_of 1318 (by decide +kernel) rfl, wsu_of 66 (by decide +kernel) rfl, by decide +kernel, by decide, wsu_of 1316 (by decide +kernel) rfl, wsu_of 1317 (by decide +kernel) rfl⟩
abbrev mX7_copy : MI := (yX7_copy, cX7_copy, 7, some .int)
theorem mv_X7_copy : MV mX7_copy 5 := ⟨wsu_of 1322 (by decide +kernel) rfl, wsu_of 66 (by decide +kernel) rfl, by decide +kernel, by decide, wsu_of 1320 (by decide +kernel) rfl, wsu_of 1321 (by decide +kernel) rfl⟩
abbrev mX7_lay : MI := (yX7_lay, cX7_lay, 6, some .int)
theorem mv_X7_lay : MV mX7_lay 3 := ⟨wsu_of 1326 (by decide +kernel) rfl, wsu_of 66 (by decide +kernel) rfl, by decide +kernel, by decide, wsu_of 1324 (by decide +kernel) rfl, wsu_of 1325 (by decide +kernel) rfl⟩
abbrev mX7_isSlot : MI := (yX7_isSlot, cX7_isSlot, 1, some .boolean)
theorem ms_X7_isSlot : MS mX7_isSlot 1 := ⟨wsu_of 1329 (by decide +kernel) rfl, wsu_of 66 (by decide +kernel) rfl, by decide +kernel, by decide, wsu_of 1328 (by decide +kernel) rfl⟩
abbrev mX7_ask : MI := (yX7_ask, cX7_ask, 3, some .int)
theorem mv_X7_ask : MV mX7_ask 2 := ⟨wsu_of 1333 (by decide +kernel) rfl, wsu_of 66 (by decide +kernel) rfl, by decide +kernel, by decide, wsu_of 1331 (by decide +kernel) rfl, wsu_of 1332 (by decide +kernel) rfl⟩
abbrev mX7_item : MI := (yX7_item, cX7_item, 4, some .int)
theorem mv_X7_item : MV mX7_item 2 := ⟨wsu_of 1337 (by decide +kernel) rfl, wsu_of 66 (by decide +kernel) rfl, by decide +kernel, by decide, wsu_of 1335 (by decide +kernel) rfl, wsu_of 1336 (by decide +kernel) rfl⟩
abbrev mX7_rest : MI := (yX7_rest, cX7_rest, 3, some .int)
theorem mv_X7_rest : MV mX7_rest 2 := ⟨wsu_of 1341 (by decide +kernel) rfl, wsu_of 66 (by decide +kernel) rfl, by decide +kernel, by decide, wsu_of 1339 (by decide +kernel) rfl, wsu_of 1340 (by decide +kernel) rfl⟩
abbrev mX7_tell : MI := (yX7_tell, cX7_tell, 2, some .int)
theorem mv_X7_tell : MV mX7_tell 1 := ⟨wsu_of 1346 (by decide +kernel) rfl, wsu_of 66 (by decide +kernel) rfl, by decide +kernel, by decide, wsu_of 1344 (by decide +kernel) rfl, wsu_of 1345 (by decide +kernel) rfl⟩
abbrev mX7_check : MI := (yX7_check, cX7_check, 7, some .int)
theorem mv_X7_check : MV mX7_check 1 := ⟨wsu_of 1350 (by decide +kernel) rfl, wsu_of 66 (by decide +kernel) rfl, by decide +kernel, by decide, wsu_of 1348 (by decide +kernel) rfl, wsu_of 1349 (by decide +kernel) rfl⟩
abbrev mX7_copyAll : MI := (yX7_copyAll, cX7_copyAll, 3, none)
theorem ms_X7_copyAll : MS mX7_copyAll 2 := ⟨wsu_of 1353 (by decide +kernel) rfl, wsu_of 66 (by decide +kernel) rfl, by decide +kernel, by decide, wsu_of 1352 (by decide +kernel) rfl⟩
abbrev mX7_keep : MI := (yX7_keep, cX7_keep, 1, some .int)
theorem mv_X7_keep : MV mX7_keep 0 := ⟨wsu_of 1357 (by decide +kernel) rfl, wsu_of 66 (by decide +kernel) rfl, by decide +kernel, by decide, wsu_of 1355 (by decide +kernel) rfl, wsu_of 1356 (by decide +kernel) rfl⟩
abbrev mX7_back : MI := (yX7_back, cX7_back, 1, some .int)
theorem mv_X7_back : MV mX7_back 0 := ⟨wsu_of 1361 (by decide +kernel) rfl, wsu_of 66 (by decide +kernel) rfl, by decide +kernel, by decide, wsu_of 1359 (by decide +kernel) rfl, wsu_of 1360 (by decide +kernel) rfl⟩
abbrev mX7_count : MI := (yX7_count, cX7_count, 2, some .int)
theorem mv_X7_count : MV mX7_count 1 := ⟨wsu_of 1365 (by decide +kernel) rfl, wsu_of 66 (by decide +kernel) rfl, by decide +kernel, by decide, wsu_of 1363 (by decide +kernel) rfl, wsu_of 1364 (by decide +kernel) rfl⟩
theorem mt_max1 : Cond.static Lib.Math.max.name ∈ WSU := wsu_of 397 (by decide +kernel) rfl
theorem mt_max2 : Cond.code Lib.Math.max.name Lib.Math.max.code 2 (some .int) ∈ WSU := wsu_of 398 (by decide +kernel) rfl
theorem mt_min1 : Cond.static Lib.Math.min.name ∈ WSU := wsu_of 394 (by decide +kernel) rfl
theorem mt_min2 : Cond.code Lib.Math.min.name Lib.Math.min.code 2 (some .int) ∈ WSU := wsu_of 395 (by decide +kernel) rfl
theorem mt_abs1 : Cond.static Lib.Math.abs.name ∈ WSU := wsu_of 609 (by decide +kernel) rfl
theorem mt_abs2 : Cond.code Lib.Math.abs.name Lib.Math.abs.code 1 (some .int) ∈ WSU := wsu_of 610 (by decide +kernel) rfl
theorem mt_ini : Cond.initialized "java/lang/Math" ∈ WSU := wsu_of 67 (by decide +kernel) rfl
theorem ac_1 : Cond.native arraycopyName ∈ WSU := wsu_of 558 (by decide +kernel) rfl
theorem ac_2 : Cond.static arraycopyName ∈ WSU := wsu_of 557 (by decide +kernel) rfl
theorem ac_3 : Cond.initialized "java/lang/System" ∈ WSU := wsu_of 68 (by decide +kernel) rfl
end
section
/-! ===== what is there before the law begins: the table of kinds, the six words, two statics of the library ===== -/
def abF : Nat → Value := fun j => match j with | 0 => .int (-1) | 1 => .int 0 | 2 => .int 0 | 3 => .int 1 | 4 => .int 2 | _ => .int 0
def nStr : Nat := 6
def lenS : List Nat := [4, 5, 4, 3, 2, 2]
def bytS : List (List Int32) := [[109, 101, 108, 116], [111, 119, 110, 101, 114], [102, 105, 110, 101], [119, 115, 122], [104, 119], [119, 115]]
def Fz (ad : Nat → Nat → Nat) (A : Nat → Prop) (T : State) (H : Heap) : Prop :=
  va_Z "RoofSnow" "ABOVE" "[I" (.ref (ad 60 0)) A T H ∧ va_T .int (ad 60 0) 6 abF A T H ∧ vk_S nStr lenS bytS (ad 61) (ad 62) A T H ∧
  va_Z "java/lang/String" "COMPACT_STRINGS" "Z" (.int 1) A T H ∧
  (va_Z "jdk/internal/util/Preconditions" "SIOOBE_FORMATTER" "Ljava/util/function/BiFunction;" .null A T H ∨ va_Z "jdk/internal/util/Preconditions" "SIOOBE_FORMATTER" "Ljava/util/function/BiFunction;" (.ref (ad 63 0)) A T H) ∧
  vk_R RX1 100 "melt" (ad 61 0) T ∧ vk_R RX1 102 "owner" (ad 61 1) T ∧ vk_R RX1 104 "fine" (ad 61 2) T ∧ vk_R RX1 106 "wsz" (ad 61 3) T ∧ vk_R RX1 108 "hw" (ad 61 4) T ∧ vk_R RX1 110 "ws" (ad 61 5) T ∧ va_Nw (.fieldLinkNest RX2 30 "RoofSnow" "ABOVE" "[I" "RoofSnow") T
theorem Fz.warm {ad : Nat → Nat → Nat} {A : Nat → Prop} {s T : State} {H : Heap} (hW : s.WarmedH T.vm) (h : Fz ad A s H) : Fz ad A T H := by
  obtain ⟨h1, h2, h3, h4, h5, r0, r1, r2, r3, r4, r5, r6⟩ := h
  exact ⟨h1.moved hW.alike, h2.moved hW.alike, h3.moved hW.alike, h4.moved hW.alike, h5.elim (fun z => Or.inl (z.moved hW.alike)) (fun z => Or.inr (z.moved hW.alike)), r0.warm hW, r1.warm hW, r2.warm hW, r3.warm hW, r4.warm hW, r5.warm hW, r6.warmF hW⟩
theorem Fz.same {ad : Nat → Nat → Nat} {A : Nat → Prop} {s T : State} {H : Heap} (hv : T.vm = s.vm) (h : Fz ad A s H) : Fz ad A T H := by
  have ha : s.vm.Alike T.vm := by rw [hv]; exact Vm.Alike.refl _
  obtain ⟨h1, h2, h3, h4, h5, r0, r1, r2, r3, r4, r5, r6⟩ := h
  exact ⟨h1.moved ha, h2.moved ha, h3.moved ha, h4.moved ha, h5.elim (fun z => Or.inl (z.moved ha)) (fun z => Or.inr (z.moved ha)), r0.same hv, r1.same hv, r2.same hv, r3.same hv, r4.same hv, r5.same hv, r6.same rfl hv.symm⟩
theorem Fz.kept {ad : Nat → Nat → Nat} {A : Nat → Prop} {s : State} {H H1 : Heap} (h : Fz ad A s H) (hq : ∀ a : Nat, a < H.size → ¬ A a → H1[a]? = H[a]?) : Fz ad A s H1 := by
  obtain ⟨h1, h2, h3, h4, h5, hr⟩ := h
  exact ⟨h1.kept hq, h2.kept hq, h3.kept hq, h4.kept hq, h5.elim (fun z => Or.inl (z.kept hq)) (fun z => Or.inr (z.kept hq)), hr⟩
theorem Fz.narrow {ad : Nat → Nat → Nat} {A B : Nat → Prop} {s : State} {H : Heap} (h : Fz ad A s H) (hAB : ∀ q, B q → A q) : Fz ad B s H := by
  obtain ⟨h1, h2, h3, h4, h5, hr⟩ := h
  exact ⟨h1.narrow hAB, h2.narrow hAB, h3.narrow hAB, h4.narrow hAB, h5.elim (fun z => Or.inl (z.narrow hAB)) (fun z => Or.inr (z.narrow hAB)), hr⟩
/-! ===== contracts over memories, and the walk of a body ===== -/
def rmD (d : Nat) : Room := { frames := d, cells := 0, slots := 0, locals := 64 * d }
def PB (ad : Nat → Nat → Nat) (D : va_G) (dA : Nat → Nat → ClassId) (U : Uv) (V : Mem) (T : State) : Prop :=
  va_P D vwCl (wsU ad dA U V) T.heap ∧ va_K D vwCl (tyU dA U) T ∧ Inj ad U ∧ Fz ad (AU ad U) T T.heap
def QR (ad : Nat → Nat → Nat) (D : va_G) (dA : Nat → Nat → ClassId) (U : Uv) (P : Option AV → Mem → Prop) : Array Value → State → Outcome → State → Prop := fun _ st oc t =>
  (∃ (v : Option AV) (V' : Mem), oc = .returned (v.map (cv ad)) ∧ P v V' ∧ PB ad D dA U V' t) ∧ va_F (AU ad U) st t
def wsM (M : MI) : List Cond := Cond.code M.1 M.2.1 M.2.2.1 M.2.2.2 :: WSU
def Cl (U : Uv) (d : Nat) (M : MI) (as : List AV) (V : Mem) (P : Option AV → Mem → Prop) : Prop :=
  ∀ (l : Launch) (ad : Nat → Nat → Nat) (D : va_G) (dA : Nat → Nat → ClassId), Met l M.1 (wsM M) (rmD d) (va_Pc (as.map (cv ad)) (PB ad D dA U V)) (QR ad D dA U P) 0 0 (AU ad U)
def Ctx (p : Program) (s : State) (m : MethodId) (args : Array Value) (c : Code) (ad : Nat → Nat → Nat) (D : va_G) (dA : Nat → Nat → ClassId) (U : Uv) (A : Nat → Prop) (cc : ByteArray) (nL : Nat) (own : String) : Prop :=
  p.tables.exec = Jvm.exec ∧ c.code = cc ∧ c.maxLocals = nL ∧ s.vm.findClass own = some m.cls ∧ (∀ w ∈ WSU, w.before args s = true) ∧ va_K D vwCl (tyU dA U) s ∧ Inj ad U ∧ (∀ q, AU ad U q → A q) ∧ Fz ad A s s.heap
abbrev KT : Type := Program → Launch → Env → Room → State → MethodId → Array Value → List Frame → Method → Code → (Nat → Nat → Nat) → va_G → (Nat → Nat → ClassId) → (Nat → Prop) → Nat → Nat → (State → Prop) → Prop
abbrev cvl (ad : Nat → Nat → Nat) (al : List (Nat × AV)) : List (Nat × Value) := al.map (fun q => (q.1, cv ad q.2))
def Gq (Φ : KT) (U : Uv) (cc : ByteArray) (nL : Nat) (own : String) (pc : Nat) (al : List (Nat × AV)) (st : List AV) (V : Mem) : Prop :=
  ∀ (p : Program) (l : Launch) (e : Env) (R : Room) (s : State) (m : MethodId) (args : Array Value) (below : List Frame) (meth : Method) (c : Code) (ad : Nat → Nat → Nat) (D : va_G) (dA : Nat → Nat → ClassId) (A : Nat → Prop) (cells slots : Nat) (Qf : State → Prop),
    Φ p l e R s m args below meth c ad D dA A cells slots Qf → Ctx p s m args c ad D dA U A cc nL own →
    ∀ (H : Heap) (locs : List Loc) (ls : Array Slot), va_P D vwCl (wsU ad dA U V) H → va_S A s.heap H locs → lv_has ls nL (cvl ad al) →
      W p l e R s m args below meth c H locs cells slots Qf (F0 m pc ls (st.map (cv ad)))
/-- the context of a method's body -/
def Kp (d : Nat) (M : MI) (U : Uv) (P : Option AV → Mem → Prop) : KT := fun p l e R s m args below meth c ad D dA A cells slots Qf =>
  R = rmD d ∧ A = AU ad U ∧ cells = 0 ∧ slots = 0 ∧ Qf = MQ below (QR ad D dA U P) args s 0 0 (AU ad U) ∧ meth.sig.returnType = M.2.2.2 ∧ meth.locks = false
theorem cl_of {U : Uv} {d : Nat} {M : MI} {as : List AV} {V : Mem} {P : Option AV → Mem → Prop} (al : List (Nat × AV)) (hy : plainName M.1.cls = true) (hn : ∀ ad, (lg_sl (as.map (cv ad))).length ≤ M.2.2.1) (hal : ∀ ad, lv_args 0 (as.map (cv ad)) = cvl ad al)
    (h : Gq (Kp d M U P) U M.2.1 M.2.2.1 M.1.cls 0 al [] V) : Cl U d M as V P := by
  intro l ad D dA
  refine Met.ofW (cc := M.2.1) (maxL := M.2.2.1) (ret := M.2.2.2) hy rfl ?_
  intro p e s m args below meth c s₁ B hml hv
  obtain ⟨rfl, hP, hK, hI, hF⟩ := hv
  have hts := atoms_spec (ws := wsM M) B.pre
  have hown : s.vm.findClass M.1.cls = some m.cls := findClass_of_methodNamed B.named
  rw [lg_entry_eq]
  have hl := lv_entry (as.map (cv ad)) (hn ad)
  rw [hal ad] at hl
  exact h p l e (rmD d) s m _ below meth c ad D dA (AU ad U) 0 0 _ ⟨rfl, rfl, rfl, rfl, rfl, B.returns, B.notSynchronized⟩
    ⟨B.exec, B.bytes, hml, hown, fun w hw => hts w (List.mem_cons_of_mem _ hw), hK, hI, fun _ h => h, hF⟩ s.heap [] _ hP va_S.rf hl
/-! ===== rows: one an instruction ===== -/
def st1 (i : Nat) (v : AV) (al : List (Nat × AV)) : List (Nat × AV) := (i, v) :: al.filter (fun q => !(q.1 == i) && !(q.1 + 1 == i && isW q.2))
def st2 (i : Nat) (v : AV) (al : List (Nat × AV)) : List (Nat × AV) := (i, v) :: al.filter (fun q => !(q.1 == i) && (!(q.1 == i + 1) && !(q.1 + 1 == i && isW q.2)))
theorem st1_map (ad : Nat → Nat → Nat) (i : Nat) (v : AV) (al : List (Nat × AV)) : (i, cv ad v) :: (cvl ad al).filter (fun q => !(q.1 == i) && !(q.1 + 1 == i && q.2.category == 2)) = cvl ad (st1 i v al) := by
  unfold cvl st1
  rw [List.map_cons, List.filter_map]
  congr 1
  congr 1
  apply List.filter_congr
  intro q _
  simp only [Function.comp, cv_cat]
theorem st2_map (ad : Nat → Nat → Nat) (i : Nat) (v : AV) (al : List (Nat × AV)) : (i, cv ad v) :: (cvl ad al).filter (fun q => !(q.1 == i) && (!(q.1 == i + 1) && !(q.1 + 1 == i && q.2.category == 2))) = cvl ad (st2 i v al) := by
  unfold cvl st2
  rw [List.map_cons, List.filter_map]
  congr 1
  congr 1
  apply List.filter_congr
  intro q _
  simp only [Function.comp, cv_cat]
theorem lv_al {ad : Nat → Nat → Nat} {ls : Array Slot} {nL : Nat} {al : List (Nat × AV)} (h : lv_has ls nL (cvl ad al)) {k i : Nat} {v : AV} (hk : al[k]? = some (i, v)) : ls[i]? = some (.val (cv ad v)) :=
  lv_at h k (by rw [cvl, List.getElem?_map, hk]; rfl)
end
section
theorem cat1 (ad : Nat → Nat → Nat) {a : AV} (h : isW a = false) : (cv ad a).category = 1 := by
  rcases a with x | ⟨q⟩ | x | x
  · rfl
  · rfl
  · cases h
  · rfl
theorem cat_sum (ad : Nat → Nat → Nat) (st : List AV) : ((st.map (cv ad)).map fun v => v.category).sum = (st.map fun v => if isW v then 2 else 1).sum := by
  induction st with
  | nil => rfl
  | cons a t ih =>
    simp only [List.map_cons, List.sum_cons, ih]
    congr 1
    rcases a with x | ⟨q⟩ | x | x <;> rfl
section ROWS
variable {Φ : KT} {U : Uv} {cc : ByteArray} {nL : Nat} {own : String} {pc : Nat} {al : List (Nat × AV)} {st : List AV} {V : Mem}
def HR (Φ : KT) (d : Nat) : Prop := ∀ (p : Program) (l : Launch) (e : Env) (R : Room) (s : State) (m : MethodId) (args : Array Value) (below : List Frame) (meth : Method) (c : Code) (ad : Nat → Nat → Nat) (D : va_G) (dA : Nat → Nat → ClassId) (A : Nat → Prop) (cells slots : Nat) (Qf : State → Prop),
    Φ p l e R s m args below meth c ad D dA A cells slots Qf → d + 1 ≤ R.frames ∧ 64 * d + 64 ≤ R.locals ∧ cells ≤ R.cells ∧ slots ≤ R.slots
theorem hr_Kp {d d' : Nat} {M : MI} {U : Uv} {P : Option AV → Mem → Prop} (h : d' ≤ d) : HR (Kp (d + 1) M U P) d' := by
  intro p l e R s m args below meth c ad D dA A cells slots Qf hf
  obtain ⟨rfl, -, rfl, rfl, -⟩ := hf
  refine ⟨?_, ?_, Nat.zero_le _, Nat.zero_le _⟩
  · show d' + 1 ≤ d + 1
    omega
  · show 64 * d' + 64 ≤ 64 * (d + 1)
    omega

theorem go_iconst {n : Int} {v : Int32} (hd : decode cc pc = .ok (.iconst n, 1)) (hv : Int32.ofInt n = v) (k : Gq Φ U cc nL own (pc + 1) al (aI v :: st) V) : Gq Φ U cc nL own pc al (st) V := by
  intro p l e R s m args below meth c ad D dA A cells slots Qf hf hC H locs ls hP hS hl
  exact lv_iconst hC.1 hC.2.1 hd hv (k p l e R s m args below meth c ad D dA A cells slots Qf hf hC H locs ls hP hS hl)
theorem go_bipush {n : Int} {v : Int32} (hd : decode cc pc = .ok (.bipush n, 2)) (hv : (Int8.ofInt n).toInt32 = v) (k : Gq Φ U cc nL own (pc + 2) al (aI v :: st) V) : Gq Φ U cc nL own pc al (st) V := by
  intro p l e R s m args below meth c ad D dA A cells slots Qf hf hC H locs ls hP hS hl
  exact lv_bipush hC.1 hC.2.1 hd hv (k p l e R s m args below meth c ad D dA A cells slots Qf hf hC H locs ls hP hS hl)
theorem go_sipush {n : Int} {v : Int32} (hd : decode cc pc = .ok (.sipush n, 3)) (hv : (Int16.ofInt n).toInt32 = v) (k : Gq Φ U cc nL own (pc + 3) al (aI v :: st) V) : Gq Φ U cc nL own pc al (st) V := by
  intro p l e R s m args below meth c ad D dA A cells slots Qf hf hC H locs ls hP hS hl
  exact lv_sipush hC.1 hC.2.1 hd hv (k p l e R s m args below meth c ad D dA A cells slots Qf hf hC H locs ls hP hS hl)
theorem go_lconst {n : Fin 2} {v : Int64} (hd : decode cc pc = .ok (.lconst n, 1)) (hv : Int64.ofNat (n : Nat) = v) (k : Gq Φ U cc nL own (pc + 1) al (aL v :: st) V) : Gq Φ U cc nL own pc al (st) V := by
  intro p l e R s m args below meth c ad D dA A cells slots Qf hf hC H locs ls hP hS hl
  exact lv_lconst hC.1 hC.2.1 hd hv (k p l e R s m args below meth c ad D dA A cells slots Qf hf hC H locs ls hP hS hl)
theorem go_ldc {ix : Nat} {v : Int32} (hd : decode cc pc = .ok (.ldc ix, 2)) (hw : Cond.constant own ix v ∈ WSU) (k : Gq Φ U cc nL own (pc + 2) al (aI v :: st) V) : Gq Φ U cc nL own pc al (st) V := by
  intro p l e R s m args below meth c ad D dA A cells slots Qf hf hC H locs ls hP hS hl
  exact lv_ldc hC.1 hC.2.1 hC.2.2.2.1 (hC.2.2.2.2.1 _ hw) hd (k p l e R s m args below meth c ad D dA A cells slots Qf hf hC H locs ls hP hS hl)
theorem go_ldcw {ix : Nat} {v : Int32} (hd : decode cc pc = .ok (.ldc_w ix, 3)) (hw : Cond.constant own ix v ∈ WSU) (k : Gq Φ U cc nL own (pc + 3) al (aI v :: st) V) : Gq Φ U cc nL own pc al (st) V := by
  intro p l e R s m args below meth c ad D dA A cells slots Qf hf hC H locs ls hP hS hl
  exact lv_ldcw hC.1 hC.2.1 hC.2.2.2.1 (hC.2.2.2.2.1 _ hw) hd (k p l e R s m args below meth c ad D dA A cells slots Qf hf hC H locs ls hP hS hl)
theorem go_iload_n {n : Fin 4} {i q : Nat} {x : Int32} (hd : decode cc pc = .ok (.iload_n n, 1)) (hi : (n : Nat) = i) (hv : al[q]? = some (i, aI x)) (k : Gq Φ U cc nL own (pc + 1) al (aI x :: st) V) : Gq Φ U cc nL own pc al (st) V := by
  intro p l e R s m args below meth c ad D dA A cells slots Qf hf hC H locs ls hP hS hl
  exact lv_iload_n hC.1 hC.2.1 hd hi (lv_al hl hv) (k p l e R s m args below meth c ad D dA A cells slots Qf hf hC H locs ls hP hS hl)
theorem go_iload {i q : Nat} {x : Int32} (hd : decode cc pc = .ok (.iload i, 2)) (hv : al[q]? = some (i, aI x)) (k : Gq Φ U cc nL own (pc + 2) al (aI x :: st) V) : Gq Φ U cc nL own pc al (st) V := by
  intro p l e R s m args below meth c ad D dA A cells slots Qf hf hC H locs ls hP hS hl
  exact lv_iload hC.1 hC.2.1 hd (lv_al hl hv) (k p l e R s m args below meth c ad D dA A cells slots Qf hf hC H locs ls hP hS hl)
theorem go_lload_n {n : Fin 4} {i q : Nat} {x : Int64} (hd : decode cc pc = .ok (.lload_n n, 1)) (hi : (n : Nat) = i) (hv : al[q]? = some (i, aL x)) (k : Gq Φ U cc nL own (pc + 1) al (aL x :: st) V) : Gq Φ U cc nL own pc al (st) V := by
  intro p l e R s m args below meth c ad D dA A cells slots Qf hf hC H locs ls hP hS hl
  exact lv_lload_n hC.1 hC.2.1 hd hi (lv_al hl hv) (k p l e R s m args below meth c ad D dA A cells slots Qf hf hC H locs ls hP hS hl)
theorem go_lload {i q : Nat} {x : Int64} (hd : decode cc pc = .ok (.lload i, 2)) (hv : al[q]? = some (i, aL x)) (k : Gq Φ U cc nL own (pc + 2) al (aL x :: st) V) : Gq Φ U cc nL own pc al (st) V := by
  intro p l e R s m args below meth c ad D dA A cells slots Qf hf hC H locs ls hP hS hl
  exact lv_lload hC.1 hC.2.1 hd (lv_al hl hv) (k p l e R s m args below meth c ad D dA A cells slots Qf hf hC H locs ls hP hS hl)
theorem go_aload_n {n : Fin 4} {i q r j : Nat} (hd : decode cc pc = .ok (.aload_n n, 1)) (hi : (n : Nat) = i) (hv : al[q]? = some (i, aR r j)) (k : Gq Φ U cc nL own (pc + 1) al (aR r j :: st) V) : Gq Φ U cc nL own pc al (st) V := by
  intro p l e R s m args below meth c ad D dA A cells slots Qf hf hC H locs ls hP hS hl
  exact lv_aload_n hC.1 hC.2.1 hd hi (lv_al hl hv) (k p l e R s m args below meth c ad D dA A cells slots Qf hf hC H locs ls hP hS hl)
theorem go_aload {i q r j : Nat} (hd : decode cc pc = .ok (.aload i, 2)) (hv : al[q]? = some (i, aR r j)) (k : Gq Φ U cc nL own (pc + 2) al (aR r j :: st) V) : Gq Φ U cc nL own pc al (st) V := by
  intro p l e R s m args below meth c ad D dA A cells slots Qf hf hC H locs ls hP hS hl
  exact lv_aload hC.1 hC.2.1 hd (lv_al hl hv) (k p l e R s m args below meth c ad D dA A cells slots Qf hf hC H locs ls hP hS hl)
theorem go_istore_n {n : Fin 4} {i : Nat} {x : Int32} {al1 : List (Nat × AV)} (hd : decode cc pc = .ok (.istore_n n, 1)) (hi : (n : Nat) = i) (hn : i < nL) (ha : st1 i (aI x) al = al1) (k : Gq Φ U cc nL own (pc + 1) al1 st V) : Gq Φ U cc nL own pc al (aI x :: st) V := by
  intro p l e R s m args below meth c ad D dA A cells slots Qf hf hC H locs ls hP hS hl
  subst ha
  exact lv_istore_n hC.1 hC.2.1 hd hi hl hn (st1_map ad i (aI x) al) (fun ls1 hl1 => (k p l e R s m args below meth c ad D dA A cells slots Qf hf hC H locs ls1 hP hS hl1))
theorem go_istore {i : Nat} {x : Int32} {al1 : List (Nat × AV)} (hd : decode cc pc = .ok (.istore i, 2))  (hn : i < nL) (ha : st1 i (aI x) al = al1) (k : Gq Φ U cc nL own (pc + 2) al1 st V) : Gq Φ U cc nL own pc al (aI x :: st) V := by
  intro p l e R s m args below meth c ad D dA A cells slots Qf hf hC H locs ls hP hS hl
  subst ha
  exact lv_istore hC.1 hC.2.1 hd hl hn (st1_map ad i (aI x) al) (fun ls1 hl1 => (k p l e R s m args below meth c ad D dA A cells slots Qf hf hC H locs ls1 hP hS hl1))
theorem go_lstore_n {n : Fin 4} {i : Nat} {x : Int64} {al1 : List (Nat × AV)} (hd : decode cc pc = .ok (.lstore_n n, 1)) (hi : (n : Nat) = i) (hn : i + 1 < nL) (ha : st2 i (aL x) al = al1) (k : Gq Φ U cc nL own (pc + 1) al1 st V) : Gq Φ U cc nL own pc al (aL x :: st) V := by
  intro p l e R s m args below meth c ad D dA A cells slots Qf hf hC H locs ls hP hS hl
  subst ha
  exact lv_lstore_n hC.1 hC.2.1 hd hi hl hn (st2_map ad i (aL x) al) (fun ls1 hl1 => (k p l e R s m args below meth c ad D dA A cells slots Qf hf hC H locs ls1 hP hS hl1))
theorem go_lstore {i : Nat} {x : Int64} {al1 : List (Nat × AV)} (hd : decode cc pc = .ok (.lstore i, 2))  (hn : i + 1 < nL) (ha : st2 i (aL x) al = al1) (k : Gq Φ U cc nL own (pc + 2) al1 st V) : Gq Φ U cc nL own pc al (aL x :: st) V := by
  intro p l e R s m args below meth c ad D dA A cells slots Qf hf hC H locs ls hP hS hl
  subst ha
  exact lv_lstore hC.1 hC.2.1 hd hl hn (st2_map ad i (aL x) al) (fun ls1 hl1 => (k p l e R s m args below meth c ad D dA A cells slots Qf hf hC H locs ls1 hP hS hl1))
theorem go_astore_n {n : Fin 4} {i r j : Nat} {al1 : List (Nat × AV)} (hd : decode cc pc = .ok (.astore_n n, 1)) (hi : (n : Nat) = i) (hn : i < nL) (ha : st1 i (aR r j) al = al1) (k : Gq Φ U cc nL own (pc + 1) al1 st V) : Gq Φ U cc nL own pc al (aR r j :: st) V := by
  intro p l e R s m args below meth c ad D dA A cells slots Qf hf hC H locs ls hP hS hl
  subst ha
  exact lv_astore_n hC.1 hC.2.1 hd hi hl hn (st1_map ad i (aR r j) al) (fun ls1 hl1 => (k p l e R s m args below meth c ad D dA A cells slots Qf hf hC H locs ls1 hP hS hl1))
theorem go_astore {i r j : Nat} {al1 : List (Nat × AV)} (hd : decode cc pc = .ok (.astore i, 2))  (hn : i < nL) (ha : st1 i (aR r j) al = al1) (k : Gq Φ U cc nL own (pc + 2) al1 st V) : Gq Φ U cc nL own pc al (aR r j :: st) V := by
  intro p l e R s m args below meth c ad D dA A cells slots Qf hf hC H locs ls hP hS hl
  subst ha
  exact lv_astore hC.1 hC.2.1 hd hl hn (st1_map ad i (aR r j) al) (fun ls1 hl1 => (k p l e R s m args below meth c ad D dA A cells slots Qf hf hC H locs ls1 hP hS hl1))
theorem go_iinc {i q : Nat} {n : Int} {x y : Int32} {al1 : List (Nat × AV)} (hd : decode cc pc = .ok (.iinc i n, 3)) (hv : al[q]? = some (i, aI x)) (hy : Int32.ofInt n = y) (hn : i < nL) (ha : st1 i (aI (x + y)) al = al1) (k : Gq Φ U cc nL own (pc + 3) al1 st V) : Gq Φ U cc nL own pc al st V := by
  intro p l e R s m args below meth c ad D dA A cells slots Qf hf hC H locs ls hP hS hl
  subst ha
  subst hy
  exact lv_iinc (k := q) (x := x) hC.1 hC.2.1 hd hl (by rw [cvl, List.getElem?_map, hv]; rfl) rfl hn (st1_map ad i (aI (x + Int32.ofInt n)) al) (fun ls1 hl1 => (k p l e R s m args below meth c ad D dA A cells slots Qf hf hC H locs ls1 hP hS hl1))
theorem go_iadd {x y : Int32} (hd : decode cc pc = .ok (.iadd, 1))  (k : Gq Φ U cc nL own (pc + 1) al (aI (x + y) :: st) V) : Gq Φ U cc nL own pc al (aI y :: aI x :: st) V := by
  intro p l e R s m args below meth c ad D dA A cells slots Qf hf hC H locs ls hP hS hl
  exact lv_iadd hC.1 hC.2.1 hd (k p l e R s m args below meth c ad D dA A cells slots Qf hf hC H locs ls hP hS hl)
theorem go_isub {x y : Int32} (hd : decode cc pc = .ok (.isub, 1))  (k : Gq Φ U cc nL own (pc + 1) al (aI (x - y) :: st) V) : Gq Φ U cc nL own pc al (aI y :: aI x :: st) V := by
  intro p l e R s m args below meth c ad D dA A cells slots Qf hf hC H locs ls hP hS hl
  exact lv_isub hC.1 hC.2.1 hd (k p l e R s m args below meth c ad D dA A cells slots Qf hf hC H locs ls hP hS hl)
theorem go_imul {x y : Int32} (hd : decode cc pc = .ok (.imul, 1))  (k : Gq Φ U cc nL own (pc + 1) al (aI (x * y) :: st) V) : Gq Φ U cc nL own pc al (aI y :: aI x :: st) V := by
  intro p l e R s m args below meth c ad D dA A cells slots Qf hf hC H locs ls hP hS hl
  exact lv_imul hC.1 hC.2.1 hd (k p l e R s m args below meth c ad D dA A cells slots Qf hf hC H locs ls hP hS hl)
theorem go_iand {x y : Int32} (hd : decode cc pc = .ok (.iand, 1))  (k : Gq Φ U cc nL own (pc + 1) al (aI (x &&& y) :: st) V) : Gq Φ U cc nL own pc al (aI y :: aI x :: st) V := by
  intro p l e R s m args below meth c ad D dA A cells slots Qf hf hC H locs ls hP hS hl
  exact lv_iand hC.1 hC.2.1 hd (k p l e R s m args below meth c ad D dA A cells slots Qf hf hC H locs ls hP hS hl)
theorem go_ishr {x y : Int32} (hd : decode cc pc = .ok (.ishr, 1))  (k : Gq Φ U cc nL own (pc + 1) al (aI (x >>> (y &&& 31)) :: st) V) : Gq Φ U cc nL own pc al (aI y :: aI x :: st) V := by
  intro p l e R s m args below meth c ad D dA A cells slots Qf hf hC H locs ls hP hS hl
  exact lv_ishr hC.1 hC.2.1 hd (k p l e R s m args below meth c ad D dA A cells slots Qf hf hC H locs ls hP hS hl)
theorem go_iushr {x y : Int32} (hd : decode cc pc = .ok (.iushr, 1))  (k : Gq Φ U cc nL own (pc + 1) al (aI ((x.toUInt32 >>> (y.toUInt32 &&& Int32.toUInt32 31)).toInt32) :: st) V) : Gq Φ U cc nL own pc al (aI y :: aI x :: st) V := by
  intro p l e R s m args below meth c ad D dA A cells slots Qf hf hC H locs ls hP hS hl
  exact lv_iushr hC.1 hC.2.1 hd rfl (k p l e R s m args below meth c ad D dA A cells slots Qf hf hC H locs ls hP hS hl)
theorem go_idiv {x y : Int32} (hd : decode cc pc = .ok (.idiv, 1)) (hne : ¬ y = 0) (k : Gq Φ U cc nL own (pc + 1) al (aI (x / y) :: st) V) : Gq Φ U cc nL own pc al (aI y :: aI x :: st) V := by
  intro p l e R s m args below meth c ad D dA A cells slots Qf hf hC H locs ls hP hS hl
  exact lv_idiv hC.1 hC.2.1 hd hne (k p l e R s m args below meth c ad D dA A cells slots Qf hf hC H locs ls hP hS hl)
theorem go_irem {x y : Int32} (hd : decode cc pc = .ok (.irem, 1)) (hne : ¬ y = 0) (k : Gq Φ U cc nL own (pc + 1) al (aI (x - x / y * y) :: st) V) : Gq Φ U cc nL own pc al (aI y :: aI x :: st) V := by
  intro p l e R s m args below meth c ad D dA A cells slots Qf hf hC H locs ls hP hS hl
  exact lv_irem hC.1 hC.2.1 hd hne (k p l e R s m args below meth c ad D dA A cells slots Qf hf hC H locs ls hP hS hl)
theorem go_ineg {x : Int32} (hd : decode cc pc = .ok (.ineg, 1))  (k : Gq Φ U cc nL own (pc + 1) al (aI (-x) :: st) V) : Gq Φ U cc nL own pc al (aI x :: st) V := by
  intro p l e R s m args below meth c ad D dA A cells slots Qf hf hC H locs ls hP hS hl
  exact lv_ineg hC.1 hC.2.1 hd (k p l e R s m args below meth c ad D dA A cells slots Qf hf hC H locs ls hP hS hl)
theorem go_ladd {x y : Int64} (hd : decode cc pc = .ok (.ladd, 1))  (k : Gq Φ U cc nL own (pc + 1) al (aL (x + y) :: st) V) : Gq Φ U cc nL own pc al (aL y :: aL x :: st) V := by
  intro p l e R s m args below meth c ad D dA A cells slots Qf hf hC H locs ls hP hS hl
  exact lv_ladd hC.1 hC.2.1 hd (k p l e R s m args below meth c ad D dA A cells slots Qf hf hC H locs ls hP hS hl)
theorem go_lsub {x y : Int64} (hd : decode cc pc = .ok (.lsub, 1))  (k : Gq Φ U cc nL own (pc + 1) al (aL (x - y) :: st) V) : Gq Φ U cc nL own pc al (aL y :: aL x :: st) V := by
  intro p l e R s m args below meth c ad D dA A cells slots Qf hf hC H locs ls hP hS hl
  exact lv_lsub hC.1 hC.2.1 hd (k p l e R s m args below meth c ad D dA A cells slots Qf hf hC H locs ls hP hS hl)
theorem go_lneg {x : Int64} (hd : decode cc pc = .ok (.lneg, 1))  (k : Gq Φ U cc nL own (pc + 1) al (aL (-x) :: st) V) : Gq Φ U cc nL own pc al (aL x :: st) V := by
  intro p l e R s m args below meth c ad D dA A cells slots Qf hf hC H locs ls hP hS hl
  exact lv_lneg hC.1 hC.2.1 hd (k p l e R s m args below meth c ad D dA A cells slots Qf hf hC H locs ls hP hS hl)
theorem go_lcmp {x y : Int64} (hd : decode cc pc = .ok (.lcmp, 1))  (k : Gq Φ U cc nL own (pc + 1) al (aI (lg_cmp x y) :: st) V) : Gq Φ U cc nL own pc al (aL y :: aL x :: st) V := by
  intro p l e R s m args below meth c ad D dA A cells slots Qf hf hC H locs ls hP hS hl
  exact W.lcmp hC.1 hC.2.1 hd (k p l e R s m args below meth c ad D dA A cells slots Qf hf hC H locs ls hP hS hl)
theorem go_i2l {x : Int32} (hd : decode cc pc = .ok (.i2l, 1))  (k : Gq Φ U cc nL own (pc + 1) al (aL x.toInt64 :: st) V) : Gq Φ U cc nL own pc al (aI x :: st) V := by
  intro p l e R s m args below meth c ad D dA A cells slots Qf hf hC H locs ls hP hS hl
  exact lv_i2l hC.1 hC.2.1 hd rfl (k p l e R s m args below meth c ad D dA A cells slots Qf hf hC H locs ls hP hS hl)
theorem go_l2i {x : Int64} (hd : decode cc pc = .ok (.l2i, 1))  (k : Gq Φ U cc nL own (pc + 1) al (aI x.toInt32 :: st) V) : Gq Φ U cc nL own pc al (aL x :: st) V := by
  intro p l e R s m args below meth c ad D dA A cells slots Qf hf hC H locs ls hP hS hl
  exact lv_l2i hC.1 hC.2.1 hd rfl (k p l e R s m args below meth c ad D dA A cells slots Qf hf hC H locs ls hP hS hl)
theorem go_i2s {x : Int32} (hd : decode cc pc = .ok (.i2s, 1))  (k : Gq Φ U cc nL own (pc + 1) al (aI x.toInt16.toInt32 :: st) V) : Gq Φ U cc nL own pc al (aI x :: st) V := by
  intro p l e R s m args below meth c ad D dA A cells slots Qf hf hC H locs ls hP hS hl
  exact lv_i2s hC.1 hC.2.1 hd rfl (k p l e R s m args below meth c ad D dA A cells slots Qf hf hC H locs ls hP hS hl)
theorem go_i2b {x : Int32} (hd : decode cc pc = .ok (.i2b, 1))  (k : Gq Φ U cc nL own (pc + 1) al (aI x.toInt8.toInt32 :: st) V) : Gq Φ U cc nL own pc al (aI x :: st) V := by
  intro p l e R s m args below meth c ad D dA A cells slots Qf hf hC H locs ls hP hS hl
  exact lv_i2b hC.1 hC.2.1 hd rfl (k p l e R s m args below meth c ad D dA A cells slots Qf hf hC H locs ls hP hS hl)
theorem go_i2c {x : Int32} (hd : decode cc pc = .ok (.i2c, 1))  (k : Gq Φ U cc nL own (pc + 1) al (aI (x.toUInt32 % 65536).toInt32 :: st) V) : Gq Φ U cc nL own pc al (aI x :: st) V := by
  intro p l e R s m args below meth c ad D dA A cells slots Qf hf hC H locs ls hP hS hl
  exact lv_i2c hC.1 hC.2.1 hd rfl (k p l e R s m args below meth c ad D dA A cells slots Qf hf hC H locs ls hP hS hl)
theorem go_dup {a : AV} (hd : decode cc pc = .ok (.dup, 1)) (ha : isW a = false) (k : Gq Φ U cc nL own (pc + 1) al (a :: a :: st) V) : Gq Φ U cc nL own pc al (a :: st) V := by
  intro p l e R s m args below meth c ad D dA A cells slots Qf hf hC H locs ls hP hS hl
  exact lv_dup hC.1 hC.2.1 hd (cat1 ad ha) (k p l e R s m args below meth c ad D dA A cells slots Qf hf hC H locs ls hP hS hl)
theorem go_pop {a : AV} (hd : decode cc pc = .ok (.pop, 1)) (ha : isW a = false) (k : Gq Φ U cc nL own (pc + 1) al (st) V) : Gq Φ U cc nL own pc al (a :: st) V := by
  intro p l e R s m args below meth c ad D dA A cells slots Qf hf hC H locs ls hP hS hl
  exact lv_pop hC.1 hC.2.1 hd (cat1 ad ha) (k p l e R s m args below meth c ad D dA A cells slots Qf hf hC H locs ls hP hS hl)
theorem go_dup_x1 {a b : AV} (hd : decode cc pc = .ok (.dup_x1, 1)) (ha : isW a = false) (hb : isW b = false) (k : Gq Φ U cc nL own (pc + 1) al (a :: b :: a :: st) V) : Gq Φ U cc nL own pc al (a :: b :: st) V := by
  intro p l e R s m args below meth c ad D dA A cells slots Qf hf hC H locs ls hP hS hl
  exact lv_dup_x1 hC.1 hC.2.1 hd (cat1 ad ha) (cat1 ad hb) (k p l e R s m args below meth c ad D dA A cells slots Qf hf hC H locs ls hP hS hl)
theorem go_dup2 {a b : AV} (hd : decode cc pc = .ok (.dup2, 1)) (ha : isW a = false) (hb : isW b = false) (k : Gq Φ U cc nL own (pc + 1) al (a :: b :: a :: b :: st) V) : Gq Φ U cc nL own pc al (a :: b :: st) V := by
  intro p l e R s m args below meth c ad D dA A cells slots Qf hf hC H locs ls hP hS hl
  exact lv_dup2_11 hC.1 hC.2.1 hd (cat1 ad ha) (cat1 ad hb) (k p l e R s m args below meth c ad D dA A cells slots Qf hf hC H locs ls hP hS hl)
theorem go_if_eq {x : Int32} {off : Int} {tgt : Nat} (hd : decode cc pc = .ok (.ifCond .eq off, 3)) (ht : (pc : Int) + off = (tgt : Int)) (kt : x = 0 → Gq Φ U cc nL own tgt al st V) (kf : ¬ x = 0 → Gq Φ U cc nL own (pc + 3) al st V) : Gq Φ U cc nL own pc al (aI x :: st) V := by
  intro p l e R s m args below meth c ad D dA A cells slots Qf hf hC H locs ls hP hS hl
  exact lv_if_eq hC.1 hC.2.1 hd ht (fun h => kt h p l e R s m args below meth c ad D dA A cells slots Qf hf hC H locs ls hP hS hl) (fun h => kf h p l e R s m args below meth c ad D dA A cells slots Qf hf hC H locs ls hP hS hl)
theorem go_icmp_eq {x y : Int32} {off : Int} {tgt : Nat} (hd : decode cc pc = .ok (.if_icmp .eq off, 3)) (ht : (pc : Int) + off = (tgt : Int)) (kt : x = y → Gq Φ U cc nL own tgt al st V) (kf : ¬ x = y → Gq Φ U cc nL own (pc + 3) al st V) : Gq Φ U cc nL own pc al (aI y :: aI x :: st) V := by
  intro p l e R s m args below meth c ad D dA A cells slots Qf hf hC H locs ls hP hS hl
  exact lv_icmp_eq hC.1 hC.2.1 hd ht (fun h => kt h p l e R s m args below meth c ad D dA A cells slots Qf hf hC H locs ls hP hS hl) (fun h => kf h p l e R s m args below meth c ad D dA A cells slots Qf hf hC H locs ls hP hS hl)
theorem go_if_ne {x : Int32} {off : Int} {tgt : Nat} (hd : decode cc pc = .ok (.ifCond .ne off, 3)) (ht : (pc : Int) + off = (tgt : Int)) (kt : ¬ x = 0 → Gq Φ U cc nL own tgt al st V) (kf : x = 0 → Gq Φ U cc nL own (pc + 3) al st V) : Gq Φ U cc nL own pc al (aI x :: st) V := by
  intro p l e R s m args below meth c ad D dA A cells slots Qf hf hC H locs ls hP hS hl
  exact lv_if_ne hC.1 hC.2.1 hd ht (fun h => kt h p l e R s m args below meth c ad D dA A cells slots Qf hf hC H locs ls hP hS hl) (fun h => kf h p l e R s m args below meth c ad D dA A cells slots Qf hf hC H locs ls hP hS hl)
theorem go_icmp_ne {x y : Int32} {off : Int} {tgt : Nat} (hd : decode cc pc = .ok (.if_icmp .ne off, 3)) (ht : (pc : Int) + off = (tgt : Int)) (kt : ¬ x = y → Gq Φ U cc nL own tgt al st V) (kf : x = y → Gq Φ U cc nL own (pc + 3) al st V) : Gq Φ U cc nL own pc al (aI y :: aI x :: st) V := by
  intro p l e R s m args below meth c ad D dA A cells slots Qf hf hC H locs ls hP hS hl
  exact lv_icmp_ne hC.1 hC.2.1 hd ht (fun h => kt h p l e R s m args below meth c ad D dA A cells slots Qf hf hC H locs ls hP hS hl) (fun h => kf h p l e R s m args below meth c ad D dA A cells slots Qf hf hC H locs ls hP hS hl)
theorem go_if_lt {x : Int32} {off : Int} {tgt : Nat} (hd : decode cc pc = .ok (.ifCond .lt off, 3)) (ht : (pc : Int) + off = (tgt : Int)) (kt : x < 0 → Gq Φ U cc nL own tgt al st V) (kf : ¬ x < 0 → Gq Φ U cc nL own (pc + 3) al st V) : Gq Φ U cc nL own pc al (aI x :: st) V := by
  intro p l e R s m args below meth c ad D dA A cells slots Qf hf hC H locs ls hP hS hl
  exact lv_if_lt hC.1 hC.2.1 hd ht (fun h => kt h p l e R s m args below meth c ad D dA A cells slots Qf hf hC H locs ls hP hS hl) (fun h => kf h p l e R s m args below meth c ad D dA A cells slots Qf hf hC H locs ls hP hS hl)
theorem go_icmp_lt {x y : Int32} {off : Int} {tgt : Nat} (hd : decode cc pc = .ok (.if_icmp .lt off, 3)) (ht : (pc : Int) + off = (tgt : Int)) (kt : x < y → Gq Φ U cc nL own tgt al st V) (kf : ¬ x < y → Gq Φ U cc nL own (pc + 3) al st V) : Gq Φ U cc nL own pc al (aI y :: aI x :: st) V := by
  intro p l e R s m args below meth c ad D dA A cells slots Qf hf hC H locs ls hP hS hl
  exact lv_icmp_lt hC.1 hC.2.1 hd ht (fun h => kt h p l e R s m args below meth c ad D dA A cells slots Qf hf hC H locs ls hP hS hl) (fun h => kf h p l e R s m args below meth c ad D dA A cells slots Qf hf hC H locs ls hP hS hl)
theorem go_if_ge {x : Int32} {off : Int} {tgt : Nat} (hd : decode cc pc = .ok (.ifCond .ge off, 3)) (ht : (pc : Int) + off = (tgt : Int)) (kt : 0 ≤ x → Gq Φ U cc nL own tgt al st V) (kf : ¬ 0 ≤ x → Gq Φ U cc nL own (pc + 3) al st V) : Gq Φ U cc nL own pc al (aI x :: st) V := by
  intro p l e R s m args below meth c ad D dA A cells slots Qf hf hC H locs ls hP hS hl
  exact lv_if_ge hC.1 hC.2.1 hd ht (fun h => kt h p l e R s m args below meth c ad D dA A cells slots Qf hf hC H locs ls hP hS hl) (fun h => kf h p l e R s m args below meth c ad D dA A cells slots Qf hf hC H locs ls hP hS hl)
theorem go_icmp_ge {x y : Int32} {off : Int} {tgt : Nat} (hd : decode cc pc = .ok (.if_icmp .ge off, 3)) (ht : (pc : Int) + off = (tgt : Int)) (kt : y ≤ x → Gq Φ U cc nL own tgt al st V) (kf : ¬ y ≤ x → Gq Φ U cc nL own (pc + 3) al st V) : Gq Φ U cc nL own pc al (aI y :: aI x :: st) V := by
  intro p l e R s m args below meth c ad D dA A cells slots Qf hf hC H locs ls hP hS hl
  exact lv_icmp_ge hC.1 hC.2.1 hd ht (fun h => kt h p l e R s m args below meth c ad D dA A cells slots Qf hf hC H locs ls hP hS hl) (fun h => kf h p l e R s m args below meth c ad D dA A cells slots Qf hf hC H locs ls hP hS hl)
theorem go_if_gt {x : Int32} {off : Int} {tgt : Nat} (hd : decode cc pc = .ok (.ifCond .gt off, 3)) (ht : (pc : Int) + off = (tgt : Int)) (kt : 0 < x → Gq Φ U cc nL own tgt al st V) (kf : ¬ 0 < x → Gq Φ U cc nL own (pc + 3) al st V) : Gq Φ U cc nL own pc al (aI x :: st) V := by
  intro p l e R s m args below meth c ad D dA A cells slots Qf hf hC H locs ls hP hS hl
  exact lv_if_gt hC.1 hC.2.1 hd ht (fun h => kt h p l e R s m args below meth c ad D dA A cells slots Qf hf hC H locs ls hP hS hl) (fun h => kf h p l e R s m args below meth c ad D dA A cells slots Qf hf hC H locs ls hP hS hl)
theorem go_icmp_gt {x y : Int32} {off : Int} {tgt : Nat} (hd : decode cc pc = .ok (.if_icmp .gt off, 3)) (ht : (pc : Int) + off = (tgt : Int)) (kt : y < x → Gq Φ U cc nL own tgt al st V) (kf : ¬ y < x → Gq Φ U cc nL own (pc + 3) al st V) : Gq Φ U cc nL own pc al (aI y :: aI x :: st) V := by
  intro p l e R s m args below meth c ad D dA A cells slots Qf hf hC H locs ls hP hS hl
  exact lv_icmp_gt hC.1 hC.2.1 hd ht (fun h => kt h p l e R s m args below meth c ad D dA A cells slots Qf hf hC H locs ls hP hS hl) (fun h => kf h p l e R s m args below meth c ad D dA A cells slots Qf hf hC H locs ls hP hS hl)
theorem go_if_le {x : Int32} {off : Int} {tgt : Nat} (hd : decode cc pc = .ok (.ifCond .le off, 3)) (ht : (pc : Int) + off = (tgt : Int)) (kt : x ≤ 0 → Gq Φ U cc nL own tgt al st V) (kf : ¬ x ≤ 0 → Gq Φ U cc nL own (pc + 3) al st V) : Gq Φ U cc nL own pc al (aI x :: st) V := by
  intro p l e R s m args below meth c ad D dA A cells slots Qf hf hC H locs ls hP hS hl
  exact lv_if_le hC.1 hC.2.1 hd ht (fun h => kt h p l e R s m args below meth c ad D dA A cells slots Qf hf hC H locs ls hP hS hl) (fun h => kf h p l e R s m args below meth c ad D dA A cells slots Qf hf hC H locs ls hP hS hl)
theorem go_icmp_le {x y : Int32} {off : Int} {tgt : Nat} (hd : decode cc pc = .ok (.if_icmp .le off, 3)) (ht : (pc : Int) + off = (tgt : Int)) (kt : x ≤ y → Gq Φ U cc nL own tgt al st V) (kf : ¬ x ≤ y → Gq Φ U cc nL own (pc + 3) al st V) : Gq Φ U cc nL own pc al (aI y :: aI x :: st) V := by
  intro p l e R s m args below meth c ad D dA A cells slots Qf hf hC H locs ls hP hS hl
  exact lv_icmp_le hC.1 hC.2.1 hd ht (fun h => kt h p l e R s m args below meth c ad D dA A cells slots Qf hf hC H locs ls hP hS hl) (fun h => kf h p l e R s m args below meth c ad D dA A cells slots Qf hf hC H locs ls hP hS hl)
theorem go_goto {off : Int} {tgt : Nat} (hd : decode cc pc = .ok (.goto off, 3)) (ht : (pc : Int) + off = (tgt : Int)) (k : Gq Φ U cc nL own tgt al st V) : Gq Φ U cc nL own pc al st V := by
  intro p l e R s m args below meth c ad D dA A cells slots Qf hf hC H locs ls hP hS hl
  exact lv_goto hC.1 hC.2.1 hd ht (k p l e R s m args below meth c ad D dA A cells slots Qf hf hC H locs ls hP hS hl)
theorem go_tabOut {dflt lo hi : Int} {offs : Array Int} {len : Nat} {x : Int32} {tgt : Nat} (hd : decode cc pc = .ok (.tableswitch dflt lo hi offs, len)) (h : x.toInt < lo ∨ hi < x.toInt) (ht : (pc : Int) + dflt = (tgt : Int)) (k : Gq Φ U cc nL own tgt al st V) : Gq Φ U cc nL own pc al (aI x :: st) V := by
  intro p l e R s m args below meth c ad D dA A cells slots Qf hf hC H locs ls hP hS hl
  exact lv_tableOut hC.1 hC.2.1 hd h ht (k p l e R s m args below meth c ad D dA A cells slots Qf hf hC H locs ls hP hS hl)
theorem go_tabIn {dflt lo hi : Int} {offs : Array Int} {len : Nat} {x : Int32} {off : Int} {tgt : Nat} (hd : decode cc pc = .ok (.tableswitch dflt lo hi offs, len)) (h1 : ¬ x.toInt < lo) (h2 : ¬ hi < x.toInt) (ho : offs[(x.toInt - lo).toNat]? = some off) (ht : (pc : Int) + off = (tgt : Int)) (k : Gq Φ U cc nL own tgt al st V) : Gq Φ U cc nL own pc al (aI x :: st) V := by
  intro p l e R s m args below meth c ad D dA A cells slots Qf hf hC H locs ls hP hS hl
  exact lv_tableIn hC.1 hC.2.1 hd h1 h2 ho ht (k p l e R s m args below meth c ad D dA A cells slots Qf hf hC H locs ls hP hS hl)
theorem go_lookup {dflt : Int} {ps : Array (Int × Int)} {len : Nat} {x : Int32} {off : Int} {tgt : Nat} (hd : decode cc pc = .ok (.lookupswitch dflt ps, len)) (hp : (ps.toList.zip (ps.toList.drop 1)).all (fun (a, next) => a.1 < next.1) = true) (ho : Op.lookupswitch.offset ps.toList dflt x.toInt = off) (ht : (pc : Int) + off = (tgt : Int)) (k : Gq Φ U cc nL own tgt al st V) : Gq Φ U cc nL own pc al (aI x :: st) V := by
  intro p l e R s m args below meth c ad D dA A cells slots Qf hf hC H locs ls hP hS hl
  exact lv_lookup hC.1 hC.2.1 hd hp ho ht (k p l e R s m args below meth c ad D dA A cells slots Qf hf hC H locs ls hP hS hl)
theorem go_sub {al1 : List (Nat × AV)} (ks : List Nat) (h : ks.filterMap (fun k => al[k]?) = al1) (k : Gq Φ U cc nL own pc al1 st V) : Gq Φ U cc nL own pc al st V := by
  intro p l e R s m args below meth c ad D dA A cells slots Qf hf hC H locs ls hP hS hl
  refine k p l e R s m args below meth c ad D dA A cells slots Qf hf hC H locs ls hP hS (lv_sub hl ks ?_)
  subst h
  unfold lv_pick cvl
  rw [List.map_filterMap]
  congr 1
  funext q
  rw [List.getElem?_map]
theorem go_geto {idx r i k : Nat} {o : Option (Nat × (Nat → Nat))} (h : FG own idx r k o) (hd : decode cc pc = .ok (.getfield idx, 3)) (hm : (r, i) ∈ U) {v : AV} (hv : ∀ ad, fv1 ad (V r i) i k o = cv ad v) (kk : Gq Φ U cc nL own (pc + 3) al (v :: st) V) : Gq Φ U cc nL own pc al (aR r i :: st) V := by
  obtain ⟨ci, N, C, T, ks, h1, h2, h3, h4, h5, h6⟩ := h
  intro p l e R s m args below meth c ad D dA A cells slots Qf hf hC H locs ls hP hS hl
  obtain ⟨q, hq1, hq2⟩ := ws_at (ad := ad) (dA := dA) V hm
  have e1 : cE ad dA (V r i) r i = .inr (ci, fvs ad (V r i) i ks) := by unfold cE; rw [h1]
  rw [e1] at hq2
  exact va_get hC.1 hC.2.1 hC.2.2.2.2.1 h5 hC.2.2.2.1 hC.2.2.2.2.2.1 hP q hq2 h2 k h3 (hC.2.2.2.2.1 _ h6) (fun _ z => z) (by rw [fvs_get h4, hv]) hd (kk p l e R s m args below meth c ad D dA A cells slots Qf hf hC H locs ls hP hS hl)
theorem go_geti {idx r i k : Nat} (h : FG own idx r k none) (hd : decode cc pc = .ok (.getfield idx, 3)) (hm : (r, i) ∈ U) (kk : Gq Φ U cc nL own (pc + 3) al (aI (V r i k) :: st) V) : Gq Φ U cc nL own pc al (aR r i :: st) V := go_geto h hd hm (fun _ => rfl) kk
theorem go_getr {idx r i k r1 : Nat} {g : Nat → Nat} (h : FG own idx r k (some (r1, g))) (hd : decode cc pc = .ok (.getfield idx, 3)) (hm : (r, i) ∈ U) (kk : Gq Φ U cc nL own (pc + 3) al (aR r1 (g i) :: st) V) : Gq Φ U cc nL own pc al (aR r i :: st) V := go_geto h hd hm (fun _ => rfl) kk
theorem go_put {idx r i k : Nat} {ty : FieldType} {x : Int32} (h : FP own idx r k ty) (hd : decode cc pc = .ok (.putfield idx, 3)) (hm : (r, i) ∈ U) (hn : narrow ty (.int x) = .int x) (hfit : fits ty (.int x) = true) (kk : Gq Φ U cc nL own (pc + 3) al st (mu V r i k x)) : Gq Φ U cc nL own pc al (aI x :: aR r i :: st) V := by
  obtain ⟨ci, N, C, T, ks, ty0, h1, h2, h3, h4, h5, h6, h7, h8, h9, h10⟩ := h
  intro p l e R s m args below meth c ad D dA A cells slots Qf hf hC H locs ls hP hS hl
  obtain ⟨q, hq1, hq2⟩ := ws_at (ad := ad) (dA := dA) V hm
  have e1 : ∀ f, cE ad dA f r i = .inr (ci, fvs ad f i ks) := by intro f; unfold cE; rw [h1]
  rw [e1] at hq2
  have hD : va_D A (wsU ad dA U V) := (ws_D V hC.2.2.2.2.2.2.1).weaken (fun _ _ _ z => hC.2.2.2.2.2.2.2.1 _ z)
  refine va_put hC.1 hC.2.1 hC.2.2.2.2.1 h5 ty0 h7 h8 hC.2.2.2.1 hC.2.2.2.2.2.1 hP hD hS q hq2 h2 k h3 (hC.2.2.2.2.1 _ h6) (fun _ z => z) h9 h10 hn hfit (by rw [fvs_len]; exact (List.getElem?_eq_some_iff.mp h4).1) hd (fun H1 locs1 hP1 _ hS1 => ?_)
  rw [ws_set hC.2.2.2.2.2.2.1 hq1 (f := upd (V r i) k x) (by rw [e1, fvs_set h4]; rfl)] at hP1
  exact kk p l e R s m args below meth c ad D dA A cells slots Qf hf hC H1 locs1 ls hP1 hS1 hl
theorem go_puti {idx r i k : Nat} {x : Int32} (h : FP own idx r k .int) (hd : decode cc pc = .ok (.putfield idx, 3)) (hm : (r, i) ∈ U) (kk : Gq Φ U cc nL own (pc + 3) al st (mu V r i k x)) : Gq Φ U cc nL own pc al (aI x :: aR r i :: st) V := go_put h hd hm rfl rfl kk
theorem go_putz {idx r i k : Nat} {x : Int32} (h : FP own idx r k .boolean) (hd : decode cc pc = .ok (.putfield idx, 3)) (hm : (r, i) ∈ U) (hx : x = 0 ∨ x = 1) (kk : Gq Φ U cc nL own (pc + 3) al st (mu V r i k x)) : Gq Φ U cc nL own pc al (aI x :: aR r i :: st) V := by
  refine go_put h hd hm ?_ ?_ kk
  · rcases hx with rfl | rfl <;> rfl
  · rcases hx with rfl | rfl <;> rfl
theorem go_iald {r i n j : Nat} {x : Int32} (hs : sh r = .inr (n, .int, none)) (hn : n < 2 ^ 31) (hd : decode cc pc = .ok (.iaload, 1)) (hm : (r, i) ∈ U) (hx : x = nI j) (hj : j < n) (kk : Gq Φ U cc nL own (pc + 1) al (aI (V r i j) :: st) V) : Gq Φ U cc nL own pc al (aI x :: aR r i :: st) V := by
  intro p l e R s m args below meth c ad D dA A cells slots Qf hf hC H locs ls hP hS hl
  obtain ⟨q, hq1, hq2⟩ := ws_at (ad := ad) (dA := dA) V hm
  obtain ⟨t, ht⟩ := ty_at (dA := dA) hm hs
  have e1 : cE ad dA (V r i) r i = .inl (dA r i, n, .inl (V r i)) := by unfold cE; rw [hs]
  rw [e1] at hq2
  subst hx
  refine va_iald hC.1 hC.2.1 hC.2.2.2.2.2.1 hP q t hq2 ht (vp_in_nI hj hn) hd ?_
  rw [nI_clamp (by omega)]
  exact kk p l e R s m args below meth c ad D dA A cells slots Qf hf hC H locs ls hP hS hl
theorem go_iast {r i n j : Nat} {x v : Int32} (hs : sh r = .inr (n, .int, none)) (hn : n < 2 ^ 31) (hd : decode cc pc = .ok (.iastore, 1)) (hm : (r, i) ∈ U) (hx : x = nI j) (hj : j < n) (kk : Gq Φ U cc nL own (pc + 1) al st (mu V r i j v)) : Gq Φ U cc nL own pc al (aI v :: aI x :: aR r i :: st) V := by
  intro p l e R s m args below meth c ad D dA A cells slots Qf hf hC H locs ls hP hS hl
  obtain ⟨q, hq1, hq2⟩ := ws_at (ad := ad) (dA := dA) V hm
  obtain ⟨t, ht⟩ := ty_at (dA := dA) hm hs
  have e1 : ∀ f, cE ad dA f r i = .inl (dA r i, n, .inl f) := by intro f; unfold cE; rw [hs]
  rw [e1] at hq2
  have hD : va_D A (wsU ad dA U V) := (ws_D V hC.2.2.2.2.2.2.1).weaken (fun _ _ _ z => hC.2.2.2.2.2.2.2.1 _ z)
  subst hx
  refine va_iast hC.1 hC.2.1 hC.2.2.2.2.2.1 hP hD hS q t hq2 ht (vp_in_nI hj hn) hd (fun H1 locs1 hP1 _ hS1 => ?_)
  rw [nI_clamp (by omega)] at hP1

  rw [ws_set hC.2.2.2.2.2.2.1 hq1 (f := upd (V r i) j v) (by rw [e1])] at hP1
  exact kk p l e R s m args below meth c ad D dA A cells slots Qf hf hC H1 locs1 ls hP1 hS1 hl
theorem go_zald {r i n j : Nat} {x : Int32} (hs : sh r = .inr (n, .boolean, none)) (hn : n < 2 ^ 31) (hd : decode cc pc = .ok (.baload, 1)) (hm : (r, i) ∈ U) (hx : x = nI j) (hj : j < n) (kk : Gq Φ U cc nL own (pc + 1) al (aI (V r i j) :: st) V) : Gq Φ U cc nL own pc al (aI x :: aR r i :: st) V := by
  intro p l e R s m args below meth c ad D dA A cells slots Qf hf hC H locs ls hP hS hl
  obtain ⟨q, hq1, hq2⟩ := ws_at (ad := ad) (dA := dA) V hm
  obtain ⟨t, ht⟩ := ty_at (dA := dA) hm hs
  have e1 : cE ad dA (V r i) r i = .inl (dA r i, n, .inl (V r i)) := by unfold cE; rw [hs]
  rw [e1] at hq2
  subst hx
  refine va_zald hC.1 hC.2.1 hC.2.2.2.2.2.1 hP q t hq2 ht (vp_in_nI hj hn) hd ?_
  rw [nI_clamp (by omega)]
  exact kk p l e R s m args below meth c ad D dA A cells slots Qf hf hC H locs ls hP hS hl
theorem go_zast {r i n j : Nat} {x v : Int32} (hs : sh r = .inr (n, .boolean, none)) (hn : n < 2 ^ 31) (hd : decode cc pc = .ok (.bastore, 1)) (hm : (r, i) ∈ U) (hx : x = nI j) (hj : j < n) (hv : v = 0 ∨ v = 1) (kk : Gq Φ U cc nL own (pc + 1) al st (mu V r i j v)) : Gq Φ U cc nL own pc al (aI v :: aI x :: aR r i :: st) V := by
  intro p l e R s m args below meth c ad D dA A cells slots Qf hf hC H locs ls hP hS hl
  obtain ⟨q, hq1, hq2⟩ := ws_at (ad := ad) (dA := dA) V hm
  obtain ⟨t, ht⟩ := ty_at (dA := dA) hm hs
  have e1 : ∀ f, cE ad dA f r i = .inl (dA r i, n, .inl f) := by intro f; unfold cE; rw [hs]
  rw [e1] at hq2
  have hD : va_D A (wsU ad dA U V) := (ws_D V hC.2.2.2.2.2.2.1).weaken (fun _ _ _ z => hC.2.2.2.2.2.2.2.1 _ z)
  subst hx
  refine va_zast hC.1 hC.2.1 hC.2.2.2.2.2.1 hP hD hS q t hq2 ht (vp_in_nI hj hn) hd (fun H1 locs1 hP1 _ hS1 => ?_)
  rw [nI_clamp (by omega)] at hP1
  rw [show vp_nar .boolean v = v by rcases hv with rfl | rfl <;> rfl] at hP1
  rw [ws_set hC.2.2.2.2.2.2.1 hq1 (f := upd (V r i) j v) (by rw [e1])] at hP1
  exact kk p l e R s m args below meth c ad D dA A cells slots Qf hf hC H1 locs1 ls hP1 hS1 hl
theorem go_cald {r i n j : Nat} {x : Int32} (hs : sh r = .inr (n, .char, none)) (hn : n < 2 ^ 31) (hd : decode cc pc = .ok (.caload, 1)) (hm : (r, i) ∈ U) (hx : x = nI j) (hj : j < n) (kk : Gq Φ U cc nL own (pc + 1) al (aI (V r i j) :: st) V) : Gq Φ U cc nL own pc al (aI x :: aR r i :: st) V := by
  intro p l e R s m args below meth c ad D dA A cells slots Qf hf hC H locs ls hP hS hl
  obtain ⟨q, hq1, hq2⟩ := ws_at (ad := ad) (dA := dA) V hm
  obtain ⟨t, ht⟩ := ty_at (dA := dA) hm hs
  have e1 : cE ad dA (V r i) r i = .inl (dA r i, n, .inl (V r i)) := by unfold cE; rw [hs]
  rw [e1] at hq2
  subst hx
  refine va_cald hC.1 hC.2.1 hC.2.2.2.2.2.1 hP q t hq2 ht (vp_in_nI hj hn) hd ?_
  rw [nI_clamp (by omega)]
  exact kk p l e R s m args below meth c ad D dA A cells slots Qf hf hC H locs ls hP hS hl
theorem go_aald {r i n j r1 : Nat} {ty : FieldType} {g : Nat → Nat → Nat} {x : Int32} (hs : sh r = .inr (n, ty, some (r1, g))) (hty : ty.isReference = true) (hn : n < 2 ^ 31) (hd : decode cc pc = .ok (.aaload, 1)) (hm : (r, i) ∈ U) (hx : x = nI j) (hj : j < n) (kk : Gq Φ U cc nL own (pc + 1) al (aR r1 (g i j) :: st) V) : Gq Φ U cc nL own pc al (aI x :: aR r i :: st) V := by
  intro p l e R s m args below meth c ad D dA A cells slots Qf hf hC H locs ls hP hS hl
  obtain ⟨q, hq1, hq2⟩ := ws_at (ad := ad) (dA := dA) V hm
  obtain ⟨t, ht⟩ := ty_at (dA := dA) hm hs
  have e1 : cE ad dA (V r i) r i = .inl (dA r i, n, .inr (.inr (.inr (.inr (fun j => some (ad r1 (g i j))))))) := by unfold cE; rw [hs]
  rw [e1] at hq2
  subst hx
  have hlt : (nI j).toNatClampNeg < n := by rw [nI_clamp (by omega)]; exact hj
  refine W.aald (v := va_rf (some (ad r1 (g i (nI j).toNatClampNeg)))) (ty := ty) hC.1 hC.2.1 (hP q _ hq2) ((hC.2.2.2.2.2.1.2 t _ ht).1 n (fun j => va_rf (some (ad r1 (g i j))))) hty (fun q => by cases q) (by show ¬ (nI j < 0 ∨ (arrV _ _ _).slots.size ≤ _); rw [arrV_size]; exact vp_in_nI hj hn) (by show (arrV _ _ _).slots[_]? = _; rw [arrV_read _ _ hlt]) rfl rfl hd ?_
  rw [nI_clamp (by omega)]
  exact kk p l e R s m args below meth c ad D dA A cells slots Qf hf hC H locs ls hP hS hl
theorem go_copy {idx r0 i0 r1 i1 n0 n1 a b z : Nat} {sp dp n : Int32} (hl0 : Cond.methodLink own idx arraycopyName ∈ WSU) (hl1 : Cond.native arraycopyName ∈ WSU) (hl2 : Cond.static arraycopyName ∈ WSU) (hl3 : Cond.initialized "java/lang/System" ∈ WSU) (hR : HR Φ 0) (hs0 : sh r0 = .inr (n0, .int, none)) (hs1 : sh r1 = .inr (n1, .int, none)) (hn0 : n0 < 2 ^ 31) (hn1 : n1 < 2 ^ 31) (hd : decode cc pc = .ok (.invokestatic idx, 3)) (hm0 : (r0, i0) ∈ U) (hm1 : (r1, i1) ∈ U) (hst : st = [])
    (hsp : sp = nI a) (hdp : dp = nI b) (hz : n = nI z) (h0 : a + z ≤ n0) (h1 : b + z ≤ n1) (kk : Gq Φ U cc nL own (pc + 3) al st (ma V r1 i1 (va_cpy (V r0 i0) (V r1 i1) a b z))) : Gq Φ U cc nL own pc al (aI n :: aI dp :: aR r1 i1 :: aI sp :: aR r0 i0 :: st) V := by
  intro p l e R s m args below meth c ad D dA A cells slots Qf hf hC H locs ls hP hS hl
  obtain ⟨q0, hq1, hq2⟩ := ws_at (ad := ad) (dA := dA) V hm0
  obtain ⟨q1, hq3, hq4⟩ := ws_at (ad := ad) (dA := dA) V hm1
  obtain ⟨t0, ht0⟩ := ty_at (dA := dA) hm0 hs0
  obtain ⟨t1, ht1⟩ := ty_at (dA := dA) hm1 hs1
  have e0 : ∀ f, cE ad dA f r0 i0 = .inl (dA r0 i0, n0, .inl f) := by intro f; unfold cE; rw [hs0]
  have e1 : ∀ f, cE ad dA f r1 i1 = .inl (dA r1 i1, n1, .inl f) := by intro f; unfold cE; rw [hs1]
  rw [e0] at hq2
  rw [e1] at hq4
  have hD : va_D A (wsU ad dA U V) := (ws_D V hC.2.2.2.2.2.2.1).weaken (fun _ _ _ z => hC.2.2.2.2.2.2.2.1 _ z)
  subst hsp; subst hdp; subst hz; subst hst
  obtain ⟨hr1, hr2, hr3, hr4⟩ := hR p l e R s m args below meth c ad D dA A cells slots Qf hf
  have ca : (nI a).toNatClampNeg = a := nI_clamp (by omega)
  have cb : (nI b).toNatClampNeg = b := nI_clamp (by omega)
  have cz : (nI z).toNatClampNeg = z := nI_clamp (by omega)
  have e9 : nativeFrameWords "java/lang/System" "arraycopy" 5 ≤ 50 := by decide
  refine va_copyi (sp := nI a) (dp := nI b) (n := nI z) (rest := []) hC.1 hC.2.1 (by rw [hC.2.2.1, hl.1]) hC.2.2.2.1 (hC.2.2.2.2.1 _ hl0) (hC.2.2.2.2.1 _ hl1) (hC.2.2.2.2.1 _ hl2) (hC.2.2.2.2.1 _ hl3) hC.2.2.2.2.2.1 hP hD hS q0 q1 t0 t1 hq2 hq4 ht0 ht1 rfl (nI_pos (by omega)) (nI_pos (by omega)) (nI_pos (by omega)) (by rw [ca, cz]; exact h0) (by rw [cb, cz]; exact h1) (fun _ _ => rfl) (by omega) (by show 0 + (nativeFrameWords "java/lang/System" "arraycopy" 5 + 11) ≤ R.locals; omega) hd (fun H1 locs1 hP1 _ hS1 => ?_)
  rw [ca, cb, cz] at hP1
  rw [ws_set hC.2.2.2.2.2.2.1 hq3 (f := va_cpy (V r0 i0) (V r1 i1) a b z) (by rw [e1])] at hP1
  exact kk p l e R s m args below meth c ad D dA A cells slots Qf hf hC H1 locs1 ls hP1 hS1 hl
theorem go_mmax {idx : Nat} {x y : Int32} (hl0 : Cond.methodLink own idx Lib.Math.max.name ∈ WSU) (hl1 : Cond.static Lib.Math.max.name ∈ WSU) (hl2 : Cond.initialized "java/lang/Math" ∈ WSU) (hl3 : Cond.code Lib.Math.max.name Lib.Math.max.code 2 (some .int) ∈ WSU) (hR : HR Φ 0) (hW : (st.map fun v => if isW v then 2 else 1).sum ≤ 8) (hd : decode cc pc = .ok (.invokestatic idx, 3)) (kk : Gq Φ U cc nL own (pc + 3) al (aI (if x < y then y else x) :: st) V) : Gq Φ U cc nL own pc al (aI y :: aI x :: st) V := by
  intro p l e R s m args below meth c ad D dA A cells slots Qf hf hC H locs ls hP hS hl
  obtain ⟨hr1, hr2, hr3, hr4⟩ := hR p l e R s m args below meth c ad D dA A cells slots Qf hf
  exact va_mmax hC.1 hC.2.1 (by rw [hC.2.2.1, hl.1]) hC.2.2.2.1 (hC.2.2.2.2.1 _ hl0) (hC.2.2.2.2.1 _ hl1) (hC.2.2.2.2.1 _ hl2) (hC.2.2.2.2.1 _ hl3) (by omega) (by rw [cat_sum]; omega) hr3 hr4 hd (kk p l e R s m args below meth c ad D dA A cells slots Qf hf hC H locs ls hP hS hl)
theorem go_mmin {idx : Nat} {x y : Int32} (hl0 : Cond.methodLink own idx Lib.Math.min.name ∈ WSU) (hl1 : Cond.static Lib.Math.min.name ∈ WSU) (hl2 : Cond.initialized "java/lang/Math" ∈ WSU) (hl3 : Cond.code Lib.Math.min.name Lib.Math.min.code 2 (some .int) ∈ WSU) (hR : HR Φ 0) (hW : (st.map fun v => if isW v then 2 else 1).sum ≤ 8) (hd : decode cc pc = .ok (.invokestatic idx, 3)) (kk : Gq Φ U cc nL own (pc + 3) al (aI (if y < x then y else x) :: st) V) : Gq Φ U cc nL own pc al (aI y :: aI x :: st) V := by
  intro p l e R s m args below meth c ad D dA A cells slots Qf hf hC H locs ls hP hS hl
  obtain ⟨hr1, hr2, hr3, hr4⟩ := hR p l e R s m args below meth c ad D dA A cells slots Qf hf
  exact va_mmin hC.1 hC.2.1 (by rw [hC.2.2.1, hl.1]) hC.2.2.2.1 (hC.2.2.2.2.1 _ hl0) (hC.2.2.2.2.1 _ hl1) (hC.2.2.2.2.1 _ hl2) (hC.2.2.2.2.1 _ hl3) (by omega) (by rw [cat_sum]; omega) hr3 hr4 hd (kk p l e R s m args below meth c ad D dA A cells slots Qf hf hC H locs ls hP hS hl)
theorem go_mabs {idx : Nat} {x : Int32} (hl0 : Cond.methodLink own idx Lib.Math.abs.name ∈ WSU) (hl1 : Cond.static Lib.Math.abs.name ∈ WSU) (hl2 : Cond.initialized "java/lang/Math" ∈ WSU) (hl3 : Cond.code Lib.Math.abs.name Lib.Math.abs.code 1 (some .int) ∈ WSU) (hR : HR Φ 0) (hW : (st.map fun v => if isW v then 2 else 1).sum ≤ 8) (hd : decode cc pc = .ok (.invokestatic idx, 3)) (kk : Gq Φ U cc nL own (pc + 3) al (aI (if 0 ≤ x then x else 0 - x) :: st) V) : Gq Φ U cc nL own pc al (aI x :: st) V := by
  intro p l e R s m args below meth c ad D dA A cells slots Qf hf hC H locs ls hP hS hl
  obtain ⟨hr1, hr2, hr3, hr4⟩ := hR p l e R s m args below meth c ad D dA A cells slots Qf hf
  exact va_mabs hC.1 hC.2.1 (by rw [hC.2.2.1, hl.1]) hC.2.2.2.1 (hC.2.2.2.2.1 _ hl0) (hC.2.2.2.2.1 _ hl1) (hC.2.2.2.2.1 _ hl2) (hC.2.2.2.2.1 _ hl3) (by omega) (by rw [cat_sum]; omega) hr3 hr4 hd (kk p l e R s m args below meth c ad D dA A cells slots Qf hf hC H locs ls hP hS hl)
end ROWS
end
section
/-! ===== calls, returns ===== -/
section CALLS
variable {Φ : KT} {U : Uv} {cc : ByteArray} {nL : Nat} {own : String} {pc : Nat} {al : List (Nat × AV)} {st : List AV} {V : Mem}
theorem pb_calling {ad : Nat → Nat → Nat} {D : va_G} {dA : Nat → Nat → ClassId} {U : Uv} {V : Mem} {as : List Value} : FrameBlind (va_Pc as (PB ad D dA U V)) := by
  intro a T g mk h
  obtain ⟨h1, h2, h3, h4, h5⟩ := h
  exact ⟨h1, h2, va_K.moved (u := T) (U := T.calling g mk a) (Vm.Alike.refl T.vm) h3, h4, Fz.same (s := T) rfl h5⟩
/-- behind a call -/
theorem run_go {p : Program} {l : Launch} {e : Env} {R : Room} {s : State} {m : MethodId} {args : Array Value} {below : List Frame} {meth : Method} {c : Code} {H : Heap} {locs : List Loc} {cells slots : Nat} {Q : State → Prop} {ls : Array Slot} {rest st0 : List Value} {a : Array Value} {A0 : Nat → Prop}
    {ad : Nat → Nat → Nat} {D : va_G} {dA : Nat → Nat → ClassId} {P : Option AV → Mem → Prop}
    (hr : va_Run p l e R s m args below meth c H locs cells slots 0 0 (F0 m pc ls st0) rest (QR ad D dA U P a) (AU ad U)) (hS : va_S A0 s.heap H locs) (hA : ∀ q, AU ad U q → A0 q)
    (kk : ∀ (v : Option AV) (V' : Mem) (H1 : Heap) (locs1 : List Loc), P v V' → va_P D vwCl (wsU ad dA U V') H1 → H.size ≤ H1.size → (∀ q : Nat, q < H.size → ¬ AU ad U q → H1[q]? = H[q]?) → va_S A0 s.heap H1 locs1 → W p l e R s m args below meth c H1 locs1 cells slots Q (F0 m (pc + 3) ls ((v.map (cv ad)).toList ++ rest))) :
    W p l e R s m args below meth c H locs cells slots Q (F0 m pc ls st0) := by
  intro T hT X
  obtain ⟨v, st₀, t, T', L, h0, X', hL, e1, e2, ⟨⟨w, V', hv, hp, hb⟩, hz, hk⟩, stp⟩ := hr T hT X
  cases hv
  rw [h0] at hz hk
  obtain ⟨t2, a1, b1⟩ := kk w V' T'.heap (locs ++ L) hp (by rw [e1]; exact hb.1) (by rw [e1]; exact hz) (fun q h1 h2 => by rw [e1]; exact hk q h1 h2)
    ⟨Nat.le_trans hS.1 (by rw [e1]; exact hz), fun q h1 h2 => by rw [e1, hk q (Nat.lt_of_lt_of_le h1 hS.1) (fun z => h2 (hA q z))]; exact hS.2.1 q h1 h2, fun q hq => by
      rcases List.mem_append.mp hq with h | h
      · exact hS.2.2 q h
      · exact hA _ (hL q h)⟩ T' rfl X'
  exact ⟨t2, stp t2 a1, b1⟩
theorem wsM_good {M : MI} (h : Cond.code M.1 M.2.1 M.2.2.1 M.2.2.2 ∈ WSU) : GoodIn WSU (wsM M) := wsu_good (fun w hw => by
  rcases List.mem_cons.mp hw with rfl | hw
  · exact h
  · exact hw)
/-- the callee's cells are of the caller's world, which may hold others (U1) -/
theorem go_callV0 {d idx n r i : Nat} {M : MI} {As : List AV} {stk : List AV} {P : Option AV → Mem → Prop} {ks : List (Option (Nat × (Nat → Nat)))} {ci N : Nat} {T : u_T} {U0 : Uv}
    (hM : MV M n) (hd : decode cc pc = .ok (.invokevirtual idx, 3)) (hl0 : Cond.methodLink own idx M.1 ∈ WSU) (hR : HR Φ d) (hs : sh r = .inl (ci, ks)) (hc : vwCl[ci]? = some (M.1.cls, T, N)) (hm : (r, i) ∈ U0) (hsub : ∀ x ∈ U0, x ∈ U) (hnd : ∀ (a b : Nat) (x : Nat × Nat), U0[a]? = some x → U0[b]? = some x → a = b) (hlen : As.length = n) (hstk : stk = As.reverse ++ aR r i :: st) (hW : (st.map fun v => if isW v then 2 else 1).sum ≤ 8)
    (h : Cl U0 d M (aR r i :: As) V P)
    (kk : ∀ (v : Option AV) (V' : Mem), P v V' → Gq Φ U cc nL own (pc + 3) al (v.toList ++ st) (fun r' i' => if (r', i') ∈ U0 then V' r' i' else V r' i')) : Gq Φ U cc nL own pc al stk V := by
  intro p l e R s m args below meth c ad D dA A cells slots Qf hf hC H locs ls hP hS hl
  obtain ⟨hr1, hr2, hr3, hr4⟩ := hR p l e R s m args below meth c ad D dA A cells slots Qf hf
  obtain ⟨k1, k2, k3, k4, k5, k6⟩ := hM
  have hts := hC.2.2.2.2.1
  have hI := hC.2.2.2.2.2.2.1
  have hAU : ∀ q, AU ad U0 q → AU ad U q := fun q ⟨x, hx, e⟩ => ⟨x, hsub x hx, e⟩
  have hI0 : Inj ad U0 := by
    intro a b x y hx hy hxy
    obtain ⟨a', ha'⟩ := List.getElem?_of_mem (hsub x (List.mem_of_getElem? hx))
    obtain ⟨b', hb'⟩ := List.getElem?_of_mem (hsub y (List.mem_of_getElem? hy))
    have := hI a' b' x y ha' hb' hxy
    subst this
    have exy : x = y := Option.some.inj (ha'.symm.trans hb')
    subst exy
    exact hnd a b x hx hy
  have hP0 : va_P D vwCl (wsU ad dA U0 V) H := by
    intro k q hq
    rw [wsU, List.getElem?_map] at hq
    cases hu : U0[k]? with
    | none => rw [hu] at hq; cases hq
    | some x =>
      rw [hu] at hq
      cases hq
      obtain ⟨p', -, hp'⟩ := ws_at (ad := ad) (dA := dA) V (hsub x (List.mem_of_getElem? hu))
      exact hP p' _ hp'
  have hK0 : va_K D vwCl (tyU dA U0) s := by
    refine ⟨hC.2.2.2.2.2.1.1, fun k q hq => ?_⟩
    have hq' : q ∈ tyU dA U := by
      obtain ⟨x, hx, hxq⟩ := List.mem_filterMap.mp (List.mem_of_getElem? hq)
      exact List.mem_filterMap.mpr ⟨x, hsub x hx, hxq⟩
    obtain ⟨k', hk'⟩ := List.getElem?_of_mem hq'
    exact hC.2.2.2.2.2.1.2 k' q hk'
  have hF : ∀ T : State, T.heap = H → s.WarmedH T.vm → PB ad D dA U0 V T := fun T hT hWm =>
    ⟨by rw [hT]; exact hP0, va_K.moved hWm.alike hK0, hI0, by
      rw [hT]
      exact ((hC.2.2.2.2.2.2.2.2.kept hS.2.1).narrow (fun q z => hC.2.2.2.2.2.2.2.1 q (hAU q z))).warm hWm⟩
  subst hstk
  have hst : (As.reverse ++ aR r i :: st).map (cv ad) = (As.map (cv ad)).reverse ++ .ref (ad r i) :: st.map (cv ad) := by
    rw [List.map_append, List.map_reverse]; rfl
  rw [hst]
  obtain ⟨q, hq1, hq2⟩ := ws_at (ad := ad) (dA := dA) V hm
  have e1 : cE ad dA (V r i) r i = .inr (ci, fvs ad (V r i) i ks) := by unfold cE; rw [hs]
  rw [e1] at hq2
  refine run_go (U := U0) (va_runV (As := As.map (cv ad)) (rest := st.map (cv ad)) (b := ad r i) (n := n) (C := M.1.cls) ⟨hC.1, hC.2.1, hC.2.2.1, hC.2.2.2.1, hts⟩ (h l ad D dA)
    ⟨callB_of n hts (wsM_good k1) rfl rfl rfl (hts _ k2) (hts _ hl0) k3 ⟨hr1, by show 8 + (M.2.2.1 + 11) + 64 * d ≤ R.locals; omega⟩, hts _ k5, hts _ k6⟩
    ⟨pb_calling, va_recv hK0 hP0 (ci := ci) hc hq2, fun T hT hWm => ⟨rfl, hF T hT hWm⟩⟩ rfl (by rw [List.length_map]; exact hlen) hl.1 rfl (lv_room (by rw [cat_sum]; exact hW)) hd ⟨by omega, by omega⟩) hS (fun q z => hC.2.2.2.2.2.2.2.1 q (hAU q z)) (fun v V' H1 locs1 hp hP1 hz hk hS1 => ?_)
  have hPU : va_P D vwCl (wsU ad dA U (fun r' i' => if (r', i') ∈ U0 then V' r' i' else V r' i')) H1 := by
    intro k q hq
    rw [wsU, List.getElem?_map] at hq
    cases hu : U[k]? with
    | none => rw [hu] at hq; cases hq
    | some x =>
      rw [hu] at hq
      cases hq
      by_cases hx : (x.1, x.2) ∈ U0
      · obtain ⟨p', -, hp'⟩ := ws_at (ad := ad) (dA := dA) V' hx
        have := hP1 p' _ hp'
        show va_at D vwCl (ad x.1 x.2, cE ad dA (if (x.1, x.2) ∈ U0 then V' x.1 x.2 else V x.1 x.2) x.1 x.2) H1
        rw [if_pos hx]
        exact this
      · obtain ⟨p', -, hp'⟩ := ws_at (ad := ad) (dA := dA) V (List.mem_of_getElem? hu)
        have h0 := hP p' _ hp'
        show va_at D vwCl (ad x.1 x.2, cE ad dA (if (x.1, x.2) ∈ U0 then V' x.1 x.2 else V x.1 x.2) x.1 x.2) H1
        rw [if_neg hx]
        refine h0.kept (hk _ h0.lt (fun ⟨y, hy, e9⟩ => hx ?_))
        obtain ⟨k2', hk2'⟩ := List.getElem?_of_mem (hsub y hy)
        have := hI k k2' x y hu hk2' e9
        subst this
        have exy : x = y := Option.some.inj (hu.symm.trans hk2')
        rw [exy]
        exact hy
  have := kk v V' hp p l e R s m args below meth c ad D dA A cells slots Qf hf hC H1 locs1 ls hPU hS1 hl
  have e2 : (v.toList ++ st).map (cv ad) = (v.map (cv ad)).toList ++ st.map (cv ad) := by
    rw [List.map_append]; cases v <;> rfl
  rw [e2] at this
  exact this
theorem go_callS0 {d idx n : Nat} {M : MI} {As : List AV} {stk : List AV} {P : Option AV → Mem → Prop}
    (hM : MS M n) (hd : decode cc pc = .ok (.invokestatic idx, 3)) (hl0 : Cond.methodLink own idx M.1 ∈ WSU) (hR : HR Φ d) (hlen : As.length = n) (hstk : stk = As.reverse ++ st) (hW : (st.map fun v => if isW v then 2 else 1).sum ≤ 8)
    (h : Cl U d M As V P)
    (kk : ∀ (v : Option AV) (V' : Mem), P v V' → Gq Φ U cc nL own (pc + 3) al (v.toList ++ st) V') : Gq Φ U cc nL own pc al stk V := by
  intro p l e R s m args below meth c ad D dA A cells slots Qf hf hC H locs ls hP hS hl
  obtain ⟨hr1, hr2, hr3, hr4⟩ := hR p l e R s m args below meth c ad D dA A cells slots Qf hf
  obtain ⟨k1, k2, k3, k4, k5⟩ := hM
  have hts := hC.2.2.2.2.1
  have hF : ∀ T : State, T.heap = H → s.WarmedH T.vm → PB ad D dA U V T := fun T hT hWm =>
    ⟨by rw [hT]; exact hP, va_K.moved hWm.alike hC.2.2.2.2.2.1, hC.2.2.2.2.2.2.1, by
      rw [hT]
      exact ((hC.2.2.2.2.2.2.2.2.kept hS.2.1).narrow (fun q z => hC.2.2.2.2.2.2.2.1 q z)).warm hWm⟩
  subst hstk
  have hst : (As.reverse ++ st).map (cv ad) = (As.map (cv ad)).reverse ++ st.map (cv ad) := by
    rw [List.map_append, List.map_reverse]
  rw [hst]
  refine run_go (U := U) (va_runS (As := As.map (cv ad)) (rest := st.map (cv ad)) (n := n) ⟨hC.1, hC.2.1, hC.2.2.1, hC.2.2.2.1, hts⟩ (h l ad D dA)
    ⟨callB_of n hts (wsM_good k1) rfl rfl rfl (hts _ k2) (hts _ hl0) k3 ⟨hr1, by show 8 + (M.2.2.1 + 11) + 64 * d ≤ R.locals; omega⟩, hts _ k5⟩
    ⟨pb_calling, fun T hT hWm => ⟨rfl, hF T hT hWm⟩⟩ rfl (by rw [List.length_map]; exact hlen) hl.1 rfl (lv_room (by rw [cat_sum]; exact hW)) hd ⟨by omega, by omega⟩) hS hC.2.2.2.2.2.2.2.1 (fun v V' H1 locs1 hp hP1 hz hk hS1 => ?_)
  have := kk v V' hp p l e R s m args below meth c ad D dA A cells slots Qf hf hC H1 locs1 ls hP1 hS1 hl
  have e2 : (v.toList ++ st).map (cv ad) = (v.map (cv ad)).toList ++ st.map (cv ad) := by
    rw [List.map_append]; cases v <;> rfl
  rw [e2] at this
  exact this
end CALLS
section RETS
variable {U : Uv} {cc : ByteArray} {nL : Nat} {own : String} {pc : Nat} {al : List (Nat × AV)} {V : Mem} {d : Nat} {M : MI} {P : Option AV → Mem → Prop}
theorem pb_end {p : Program} {s : State} {m : MethodId} {args : Array Value} {c : Code} {ad : Nat → Nat → Nat} {D : va_G} {dA : Nat → Nat → ClassId} {H : Heap} {locs : List Loc} (hC : Ctx p s m args c ad D dA U (AU ad U) cc nL own) (hP : va_P D vwCl (wsU ad dA U V) H) (hS : va_S (AU ad U) s.heap H locs) (t : State) (ht : t.heap = H) (hW : s.WarmedH t.vm) : PB ad D dA U V t :=
  ⟨by rw [ht]; exact hP, va_K.moved hW.alike hC.2.2.2.2.2.1, hC.2.2.2.2.2.2.1, by rw [ht]; exact (hC.2.2.2.2.2.2.2.2.kept hS.2.1).warm hW⟩
theorem go_zret {x : Int32} {ty : FieldType} (hr : M.2.2.2 = some ty) (hn : narrow ty (.int x) = .int x) (hd : decode cc pc = .ok (.ireturn, 1)) (h : P (some (aI x)) V) : Gq (Kp d M U P) U cc nL own pc al [aI x] V := by
  intro p l e R s m args below meth c ad D dA A cells slots Qf hf hC H locs ls hP hS hl
  obtain ⟨rfl, rfl, rfl, rfl, rfl, h6, h7⟩ := hf
  exact W.zret hC.1 hC.2.1 (h6.trans hr) hn (fun t ht hW => ⟨⟨some (aI x), V, rfl, h, pb_end hC hP hS t ht hW⟩, hS.F ht⟩) hS.2.2 hd h7
theorem go_iret {x : Int32} (hr : M.2.2.2 = some .int) (hd : decode cc pc = .ok (.ireturn, 1)) (h : P (some (aI x)) V) : Gq (Kp d M U P) U cc nL own pc al [aI x] V := go_zret hr rfl hd h
theorem go_bret {x : Int32} (hr : M.2.2.2 = some .boolean) (hd : decode cc pc = .ok (.ireturn, 1)) (hx : x = 0 ∨ x = 1) (h : P (some (aI x)) V) : Gq (Kp d M U P) U cc nL own pc al [aI x] V :=
  go_zret hr (by rcases hx with rfl | rfl <;> rfl) hd h
theorem go_vret (hr : M.2.2.2 = none) (hd : decode cc pc = .ok (.return_, 1)) (h : P none V) : Gq (Kp d M U P) U cc nL own pc al [] V := by
  intro p l e R s m args below meth c ad D dA A cells slots Qf hf hC H locs ls hP hS hl
  obtain ⟨rfl, rfl, rfl, rfl, rfl, h6, h7⟩ := hf
  exact W.vret hC.1 hC.2.1 (h6.trans hr) (fun t ht hW => ⟨⟨none, V, rfl, h, pb_end hC hP hS t ht hW⟩, hS.F ht⟩) hS.2.2 hd h7
theorem go_lret {x : Int64} (hr : M.2.2.2 = some .long) (hd : decode cc pc = .ok (.lreturn, 1)) (h : P (some (aL x)) V) : Gq (Kp d M U P) U cc nL own pc al [aL x] V := by
  intro p l e R s m args below meth c ad D dA A cells slots Qf hf hC H locs ls hP hS hl
  obtain ⟨rfl, rfl, rfl, rfl, rfl, h6, h7⟩ := hf
  exact W.lret hC.1 hC.2.1 (h6.trans hr) (fun t ht hW => ⟨⟨some (aL x), V, rfl, h, pb_end hC hP hS t ht hW⟩, hS.F ht⟩) hS.2.2 hd h7
theorem go_aret {r i : Nat} {n : String} (hr : M.2.2.2 = some (.object n)) (hd : decode cc pc = .ok (.areturn, 1)) (h : P (some (aR r i)) V) : Gq (Kp d M U P) U cc nL own pc al [aR r i] V := by
  intro p l e R s m args below meth c ad D dA A cells slots Qf hf hC H locs ls hP hS hl
  obtain ⟨rfl, rfl, rfl, rfl, rfl, h6, h7⟩ := hf
  exact W.aret hC.1 hC.2.1 (h6.trans hr) (Or.inl ⟨n, rfl⟩) (Or.inr ⟨_, rfl⟩) (fun t ht hW => ⟨⟨some (aR r i), V, rfl, h, pb_end hC hP hS t ht hW⟩, hS.F ht⟩) hS.2.2 hd h7
end RETS
end
section
/-! ===== the two worlds ===== -/
def rng (a n : Nat) : Uv := (List.range n).flatMap (fun k => (List.range (cnt (a + k))).map (fun i => (a + k, i)))
def UX : Uv := rng 0 24
def UM : Uv := rng 24 22
theorem mem_rng {a n r i : Nat} (h1 : a ≤ r) (h2 : r < a + n) (h3 : i < cnt r) : (r, i) ∈ rng a n := by
  refine List.mem_flatMap.mpr ⟨r - a, List.mem_range.mpr (by omega), List.mem_map.mpr ⟨i, ?_, ?_⟩⟩
  · rw [show a + (r - a) = r by omega]
    exact List.mem_range.mpr h3
  · rw [show a + (r - a) = r by omega]
theorem rng_mem {a n r i : Nat} (h : (r, i) ∈ rng a n) : a ≤ r ∧ r < a + n ∧ i < cnt r := by
  obtain ⟨k, hk, h2⟩ := List.mem_flatMap.mp h
  obtain ⟨j, hj, e⟩ := List.mem_map.mp h2
  have hk := List.mem_range.mp hk
  have hj := List.mem_range.mp hj
  have e1 : a + k = r := congrArg Prod.fst e
  have e2 : j = i := congrArg Prod.snd e
  subst e2
  rw [← e1]
  exact ⟨by omega, by omega, hj⟩
theorem mX {r i n : Nat} (h : r < 24) (hc : cnt r = n) (hi : i < n) : (r, i) ∈ UX := mem_rng (Nat.zero_le r) (by omega) (by rw [hc]; exact hi)
theorem mM {r : Nat} (h0 : 24 ≤ r) (h : r < 46) (hc : cnt r = 1) : (r, 0) ∈ UM := mem_rng h0 (by omega) (by rw [hc]; exact Nat.zero_lt_one)
abbrev CT : Type := MI → List AV → Mem → (Option AV → Mem → Prop) → Prop
abbrev cI (C : CT) (M : MI) (as : List AV) (V : Mem) (K : Int32 → Mem → Prop) : Prop := C M as V (fun v V1 => ∃ x : Int32, v = some (aI x) ∧ K x V1)
abbrev cL (C : CT) (M : MI) (as : List AV) (V : Mem) (K : Int64 → Mem → Prop) : Prop := C M as V (fun v V1 => ∃ x : Int64, v = some (aL x) ∧ K x V1)
abbrev cV (C : CT) (M : MI) (as : List AV) (V : Mem) (K : Mem → Prop) : Prop := C M as V (fun v V1 => v = none ∧ K V1)
abbrev cR (C : CT) (M : MI) (as : List AV) (V : Mem) (r : Nat) (K : Nat → Mem → Prop) : Prop := C M as V (fun v V1 => ∃ i : Nat, v = some (aR r i) ∧ K i V1)
section MORE
variable {Φ : KT} {U : Uv} {cc : ByteArray} {nL : Nat} {own : String} {pc : Nat} {al : List (Nat × AV)} {st : List AV} {V : Mem}
theorem go_callV {d idx n r i : Nat} {M : MI} {As : List AV} {stk : List AV} {P : Option AV → Mem → Prop} {ks : List (Option (Nat × (Nat → Nat)))} {ci N : Nat} {T : u_T}
    (hM : MV M n) (hd : decode cc pc = .ok (.invokevirtual idx, 3)) (hl0 : Cond.methodLink own idx M.1 ∈ WSU) (hR : HR Φ d) (hs : sh r = .inl (ci, ks)) (hc : vwCl[ci]? = some (M.1.cls, T, N)) (hm : (r, i) ∈ U) (hlen : As.length = n) (hstk : stk = As.reverse ++ aR r i :: st) (hW : (st.map fun v => if isW v then 2 else 1).sum ≤ 8)
    (h : Cl U d M (aR r i :: As) V P)
    (kk : ∀ (v : Option AV) (V' : Mem), P v V' → Gq Φ U cc nL own (pc + 3) al (v.toList ++ st) V') : Gq Φ U cc nL own pc al stk V := by
  intro p l e R s m args below meth c ad D dA A cells slots Qf hf hC H locs ls hP hS hl
  obtain ⟨hr1, hr2, hr3, hr4⟩ := hR p l e R s m args below meth c ad D dA A cells slots Qf hf
  obtain ⟨k1, k2, k3, k4, k5, k6⟩ := hM
  have hts := hC.2.2.2.2.1
  have hF : ∀ T : State, T.heap = H → s.WarmedH T.vm → PB ad D dA U V T := fun T hT hWm =>
    ⟨by rw [hT]; exact hP, va_K.moved hWm.alike hC.2.2.2.2.2.1, hC.2.2.2.2.2.2.1, by
      rw [hT]
      exact ((hC.2.2.2.2.2.2.2.2.kept hS.2.1).narrow (fun q z => hC.2.2.2.2.2.2.2.1 q z)).warm hWm⟩
  subst hstk
  have hst : (As.reverse ++ aR r i :: st).map (cv ad) = (As.map (cv ad)).reverse ++ .ref (ad r i) :: st.map (cv ad) := by
    rw [List.map_append, List.map_reverse]; rfl
  rw [hst]
  obtain ⟨q, hq1, hq2⟩ := ws_at (ad := ad) (dA := dA) V hm
  have e1 : cE ad dA (V r i) r i = .inr (ci, fvs ad (V r i) i ks) := by unfold cE; rw [hs]
  rw [e1] at hq2
  refine run_go (U := U) (va_runV (As := As.map (cv ad)) (rest := st.map (cv ad)) (b := ad r i) (n := n) (C := M.1.cls) ⟨hC.1, hC.2.1, hC.2.2.1, hC.2.2.2.1, hts⟩ (h l ad D dA)
    ⟨callB_of n hts (wsM_good k1) rfl rfl rfl (hts _ k2) (hts _ hl0) k3 ⟨hr1, by show 8 + (M.2.2.1 + 11) + 64 * d ≤ R.locals; omega⟩, hts _ k5, hts _ k6⟩
    ⟨pb_calling, va_recv hC.2.2.2.2.2.1 hP (ci := ci) hc hq2, fun T hT hWm => ⟨rfl, hF T hT hWm⟩⟩ rfl (by rw [List.length_map]; exact hlen) hl.1 rfl (lv_room (by rw [cat_sum]; exact hW)) hd ⟨by omega, by omega⟩) hS hC.2.2.2.2.2.2.2.1 (fun v V' H1 locs1 hp hP1 hz hk hS1 => ?_)
  have := kk v V' hp p l e R s m args below meth c ad D dA A cells slots Qf hf hC H1 locs1 ls hP1 hS1 hl
  have e2 : (v.toList ++ st).map (cv ad) = (v.map (cv ad)).toList ++ st.map (cv ad) := by
    rw [List.map_append]; cases v <;> rfl
  rw [e2] at this
  exact this
theorem go_tabC {dflt lo hi : Int} {offs : Array Int} {len : Nat} {x z : Int32} {off : Int} {tgt : Nat} (hx : x = z) (hd : decode cc pc = .ok (.tableswitch dflt lo hi offs, len)) (h1 : ¬ z.toInt < lo) (h2 : ¬ hi < z.toInt) (ho : offs[(z.toInt - lo).toNat]? = some off) (ht : (pc : Int) + off = (tgt : Int)) (k : Gq Φ U cc nL own tgt al st V) : Gq Φ U cc nL own pc al (aI x :: st) V := by
  subst hx
  exact go_tabIn hd h1 h2 ho ht k
theorem go_lookC {dflt : Int} {ps : Array (Int × Int)} {len : Nat} {x z : Int32} {off : Int} {tgt : Nat} (hx : x = z) (hd : decode cc pc = .ok (.lookupswitch dflt ps, len)) (hp : (ps.toList.zip (ps.toList.drop 1)).all (fun (a, next) => a.1 < next.1) = true) (ho : Op.lookupswitch.offset ps.toList dflt z.toInt = off) (ht : (pc : Int) + off = (tgt : Int)) (k : Gq Φ U cc nL own tgt al st V) : Gq Φ U cc nL own pc al (aI x :: st) V := by
  subst hx
  exact go_lookup hd hp ho ht k
/-- the table of kinds -/
theorem go_above {idx : Nat} (hd : decode cc pc = .ok (.getstatic idx, 3)) (ho : own = RX2) (hi : idx = 30) (k : Gq Φ U cc nL own (pc + 3) al (aR 60 0 :: st) V) : Gq Φ U cc nL own pc al st V := by
  intro p l e R s m args below meth c ad D dA A cells slots Qf hf hC H locs ls hP hS hl
  subst ho
  subst hi
  exact va_getsN hC.1 hC.2.1 hC.2.2.2.2.2.2.2.2.1 hS hC.2.2.2.1 (va_Nw.use rfl hC.2.2.2.2.2.2.2.2.2.2.2.2.2.2.2.2.2.2.2) (fun _ z => z) hd (k p l e R s m args below meth c ad D dA A cells slots Qf hf hC H locs ls hP hS hl)
def abI : Nat → Int32 := fun j => match j with | 0 => -1 | 1 => 0 | 2 => 0 | 3 => 1 | 4 => 2 | _ => 0
theorem abF_eq (j : Nat) : abF j = .int (abI j) := by
  match j with
  | 0 => rfl
  | 1 => rfl
  | 2 => rfl
  | 3 => rfl
  | 4 => rfl
  | _ + 5 => rfl
theorem go_abld {x : Int32} {j : Nat} (hd : decode cc pc = .ok (.iaload, 1)) (hx : x = nI j) (hj : j < 6) (k : Gq Φ U cc nL own (pc + 1) al (aI (abI j) :: st) V) : Gq Φ U cc nL own pc al (aI x :: aR 60 0 :: st) V := by
  intro p l e R s m args below meth c ad D dA A cells slots Qf hf hC H locs ls hP hS hl
  subst hx
  refine va_ti hC.1 hC.2.1 hC.2.2.2.2.2.2.2.2.2.1 hS (vp_in_nI hj (by omega)) (v := .int (abI j)) (by rw [nI_clamp (by omega), abF_eq]) hd (k p l e R s m args below meth c ad D dA A cells slots Qf hf hC H locs ls hP hS hl)
end MORE
end
