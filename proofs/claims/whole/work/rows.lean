section
/-- a private method of a class that the tables say can be made, by its rows of tables_1 -/
def lw_okq (q : MethodName × Nat) : Prop := (q.1.cls ≠ "java/lang/invoke/MethodHandle" ∧ q.1.cls ≠ "java/lang/invoke/VarHandle") ∧ Cond.instantiable q.1.cls q.2 ∈ tables_1 ∧ Cond.privateMethod q.1 ∈ tables_1 ∧ Cond.instanceMethod q.1 ∈ tables_1
theorem lw_p0 : lw_okq (⟨"RoofSnow", "isRoof", "(I)Z"⟩, 13) := ⟨⟨by decide +kernel, by decide +kernel⟩, List.mem_of_getElem? (i := 17) (by decide +kernel), List.mem_of_getElem? (i := 312) (by decide +kernel), List.mem_of_getElem? (i := 313) (by decide +kernel)⟩
theorem lw_p1 : lw_okq (⟨"RoofSnow", "changeRoom", "(LRoofSnow$Roof;I)I"⟩, 13) := ⟨⟨by decide +kernel, by decide +kernel⟩, List.mem_of_getElem? (i := 17) (by decide +kernel), List.mem_of_getElem? (i := 380) (by decide +kernel), List.mem_of_getElem? (i := 381) (by decide +kernel)⟩
theorem lw_p2 : lw_okq (⟨"RoofSnow$World", "letRain", "(I)V"⟩, 16) := ⟨⟨by decide +kernel, by decide +kernel⟩, List.mem_of_getElem? (i := 52) (by decide +kernel), List.mem_of_getElem? (i := 442) (by decide +kernel), List.mem_of_getElem? (i := 443) (by decide +kernel)⟩
theorem lw_p3 : lw_okq (⟨"RoofSnow$World", "letSnow", "(I)V"⟩, 16) := ⟨⟨by decide +kernel, by decide +kernel⟩, List.mem_of_getElem? (i := 52) (by decide +kernel), List.mem_of_getElem? (i := 447) (by decide +kernel), List.mem_of_getElem? (i := 448) (by decide +kernel)⟩
theorem lw_p4 : lw_okq (⟨"RoofSnow$World", "letHail", "(I)V"⟩, 16) := ⟨⟨by decide +kernel, by decide +kernel⟩, List.mem_of_getElem? (i := 52) (by decide +kernel), List.mem_of_getElem? (i := 455) (by decide +kernel), List.mem_of_getElem? (i := 456) (by decide +kernel)⟩
theorem lw_p5 : lw_okq (⟨"RoofSnow$World", "letSlide", "()I"⟩, 16) := ⟨⟨by decide +kernel, by decide +kernel⟩, List.mem_of_getElem? (i := 52) (by decide +kernel), List.mem_of_getElem? (i := 459) (by decide +kernel), List.mem_of_getElem? (i := 460) (by decide +kernel)⟩
theorem lw_p6 : lw_okq (⟨"RoofSnow$World", "letMelt", "()V"⟩, 16) := ⟨⟨by decide +kernel, by decide +kernel⟩, List.mem_of_getElem? (i := 52) (by decide +kernel), List.mem_of_getElem? (i := 465) (by decide +kernel), List.mem_of_getElem? (i := 466) (by decide +kernel)⟩
theorem lw_p7 : lw_okq (⟨"RoofSnow", "yieldOfHeat", "(III)I"⟩, 13) := ⟨⟨by decide +kernel, by decide +kernel⟩, List.mem_of_getElem? (i := 17) (by decide +kernel), List.mem_of_getElem? (i := 506) (by decide +kernel), List.mem_of_getElem? (i := 507) (by decide +kernel)⟩
theorem lw_p8 : lw_okq (⟨"RoofSnow", "thinkOfWaters", "(I)V"⟩, 13) := ⟨⟨by decide +kernel, by decide +kernel⟩, List.mem_of_getElem? (i := 17) (by decide +kernel), List.mem_of_getElem? (i := 526) (by decide +kernel), List.mem_of_getElem? (i := 527) (by decide +kernel)⟩
theorem lw_p9 : lw_okq (⟨"RoofSnow", "misfit", "(LRoofSnow$Sheet;I)I"⟩, 13) := ⟨⟨by decide +kernel, by decide +kernel⟩, List.mem_of_getElem? (i := 17) (by decide +kernel), List.mem_of_getElem? (i := 542) (by decide +kernel), List.mem_of_getElem? (i := 543) (by decide +kernel)⟩
theorem lw_p10 : lw_okq (⟨"RoofSnow", "putBytes", "(II)V"⟩, 13) := ⟨⟨by decide +kernel, by decide +kernel⟩, List.mem_of_getElem? (i := 17) (by decide +kernel), List.mem_of_getElem? (i := 566) (by decide +kernel), List.mem_of_getElem? (i := 567) (by decide +kernel)⟩
theorem lw_p11 : lw_okq (⟨"RoofSnow$Reader", "goOn", "()V"⟩, 9) := ⟨⟨by decide +kernel, by decide +kernel⟩, List.mem_of_getElem? (i := 160) (by decide +kernel), List.mem_of_getElem? (i := 582) (by decide +kernel), List.mem_of_getElem? (i := 583) (by decide +kernel)⟩
theorem lw_p12 : lw_okq (⟨"RoofSnow$Reader", "readKey", "()Z"⟩, 9) := ⟨⟨by decide +kernel, by decide +kernel⟩, List.mem_of_getElem? (i := 160) (by decide +kernel), List.mem_of_getElem? (i := 589) (by decide +kernel), List.mem_of_getElem? (i := 590) (by decide +kernel)⟩
theorem lw_p13 : lw_okq (⟨"RoofSnow$Reader", "isWord", "(Ljava/lang/String;)Z"⟩, 9) := ⟨⟨by decide +kernel, by decide +kernel⟩, List.mem_of_getElem? (i := 160) (by decide +kernel), List.mem_of_getElem? (i := 599) (by decide +kernel), List.mem_of_getElem? (i := 600) (by decide +kernel)⟩
theorem lw_p14 : lw_okq (⟨"RoofSnow$Reader", "readLevel", "(III)Z"⟩, 9) := ⟨⟨by decide +kernel, by decide +kernel⟩, List.mem_of_getElem? (i := 160) (by decide +kernel), List.mem_of_getElem? (i := 651) (by decide +kernel), List.mem_of_getElem? (i := 652) (by decide +kernel)⟩
theorem lw_p15 : lw_okq (⟨"RoofSnow$Reader", "readPiece", "(II)Z"⟩, 9) := ⟨⟨by decide +kernel, by decide +kernel⟩, List.mem_of_getElem? (i := 160) (by decide +kernel), List.mem_of_getElem? (i := 655) (by decide +kernel), List.mem_of_getElem? (i := 656) (by decide +kernel)⟩
def lw_privs_1 : List (MethodName × Nat) := [(⟨"RoofSnow", "isRoof", "(I)Z"⟩, 13), (⟨"RoofSnow", "changeRoom", "(LRoofSnow$Roof;I)I"⟩, 13), (⟨"RoofSnow$World", "letRain", "(I)V"⟩, 16), (⟨"RoofSnow$World", "letSnow", "(I)V"⟩, 16), (⟨"RoofSnow$World", "letHail", "(I)V"⟩, 16), (⟨"RoofSnow$World", "letSlide", "()I"⟩, 16), (⟨"RoofSnow$World", "letMelt", "()V"⟩, 16), (⟨"RoofSnow", "yieldOfHeat", "(III)I"⟩, 13), (⟨"RoofSnow", "thinkOfWaters", "(I)V"⟩, 13), (⟨"RoofSnow", "misfit", "(LRoofSnow$Sheet;I)I"⟩, 13), (⟨"RoofSnow", "putBytes", "(II)V"⟩, 13), (⟨"RoofSnow$Reader", "goOn", "()V"⟩, 9), (⟨"RoofSnow$Reader", "readKey", "()Z"⟩, 9), (⟨"RoofSnow$Reader", "isWord", "(Ljava/lang/String;)Z"⟩, 9), (⟨"RoofSnow$Reader", "readLevel", "(III)Z"⟩, 9), (⟨"RoofSnow$Reader", "readPiece", "(II)Z"⟩, 9)]
theorem lw_r1 : ∀ q ∈ lw_privs_1, lw_okq q := List.forall_mem_cons.mpr ⟨lw_p0, List.forall_mem_cons.mpr ⟨lw_p1, List.forall_mem_cons.mpr ⟨lw_p2, List.forall_mem_cons.mpr ⟨lw_p3, List.forall_mem_cons.mpr ⟨lw_p4, List.forall_mem_cons.mpr ⟨lw_p5, List.forall_mem_cons.mpr ⟨lw_p6, List.forall_mem_cons.mpr ⟨lw_p7, List.forall_mem_cons.mpr ⟨lw_p8, List.forall_mem_cons.mpr ⟨lw_p9, List.forall_mem_cons.mpr ⟨lw_p10, List.forall_mem_cons.mpr ⟨lw_p11, List.forall_mem_cons.mpr ⟨lw_p12, List.forall_mem_cons.mpr ⟨lw_p13, List.forall_mem_cons.mpr ⟨lw_p14, List.forall_mem_cons.mpr ⟨lw_p15, fun _ h => absurd h List.not_mem_nil⟩⟩⟩⟩⟩⟩⟩⟩⟩⟩⟩⟩⟩⟩⟩⟩
theorem lw_p16 : lw_okq (⟨"RoofSnow$Reader", "numberRead", "()I"⟩, 9) := ⟨⟨by decide +kernel, by decide +kernel⟩, List.mem_of_getElem? (i := 160) (by decide +kernel), List.mem_of_getElem? (i := 659) (by decide +kernel), List.mem_of_getElem? (i := 660) (by decide +kernel)⟩
theorem lw_p17 : lw_okq (⟨"RoofSnow$Reader", "addOperand", "(I)Z"⟩, 9) := ⟨⟨by decide +kernel, by decide +kernel⟩, List.mem_of_getElem? (i := 160) (by decide +kernel), List.mem_of_getElem? (i := 663) (by decide +kernel), List.mem_of_getElem? (i := 664) (by decide +kernel)⟩
theorem lw_p18 : lw_okq (⟨"RoofSnow$Reader", "addStep", "(I)Z"⟩, 9) := ⟨⟨by decide +kernel, by decide +kernel⟩, List.mem_of_getElem? (i := 160) (by decide +kernel), List.mem_of_getElem? (i := 667) (by decide +kernel), List.mem_of_getElem? (i := 668) (by decide +kernel)⟩
theorem lw_p19 : lw_okq (⟨"RoofSnow$Reader", "nameRead", "()I"⟩, 9) := ⟨⟨by decide +kernel, by decide +kernel⟩, List.mem_of_getElem? (i := 160) (by decide +kernel), List.mem_of_getElem? (i := 671) (by decide +kernel), List.mem_of_getElem? (i := 672) (by decide +kernel)⟩
theorem lw_p20 : lw_okq (⟨"RoofSnow$Reader", "isSign", "(I)Z"⟩, 9) := ⟨⟨by decide +kernel, by decide +kernel⟩, List.mem_of_getElem? (i := 160) (by decide +kernel), List.mem_of_getElem? (i := 736) (by decide +kernel), List.mem_of_getElem? (i := 737) (by decide +kernel)⟩
theorem lw_p21 : lw_okq (⟨"RoofSnow$Reader", "isSignOf", "(I)Z"⟩, 9) := ⟨⟨by decide +kernel, by decide +kernel⟩, List.mem_of_getElem? (i := 160) (by decide +kernel), List.mem_of_getElem? (i := 740) (by decide +kernel), List.mem_of_getElem? (i := 741) (by decide +kernel)⟩
theorem lw_p22 : lw_okq (⟨"RoofSnow", "isWaiting", "(III)Z"⟩, 13) := ⟨⟨by decide +kernel, by decide +kernel⟩, List.mem_of_getElem? (i := 17) (by decide +kernel), List.mem_of_getElem? (i := 843) (by decide +kernel), List.mem_of_getElem? (i := 844) (by decide +kernel)⟩
theorem lw_p23 : lw_okq (⟨"RoofSnowModel", "comes", "(II)I"⟩, 33) := ⟨⟨by decide +kernel, by decide +kernel⟩, List.mem_of_getElem? (i := 860) (by decide +kernel), List.mem_of_getElem? (i := 977) (by decide +kernel), List.mem_of_getElem? (i := 978) (by decide +kernel)⟩
theorem lw_p24 : lw_okq (⟨"RoofSnowModel", "put", "(III)V"⟩, 33) := ⟨⟨by decide +kernel, by decide +kernel⟩, List.mem_of_getElem? (i := 860) (by decide +kernel), List.mem_of_getElem? (i := 981) (by decide +kernel), List.mem_of_getElem? (i := 982) (by decide +kernel)⟩
theorem lw_p25 : lw_okq (⟨"RoofSnowModel", "isRoof", "(I)Z"⟩, 33) := ⟨⟨by decide +kernel, by decide +kernel⟩, List.mem_of_getElem? (i := 860) (by decide +kernel), List.mem_of_getElem? (i := 989) (by decide +kernel), List.mem_of_getElem? (i := 990) (by decide +kernel)⟩
theorem lw_p26 : lw_okq (⟨"RoofSnowModel", "of", "(II)I"⟩, 33) := ⟨⟨by decide +kernel, by decide +kernel⟩, List.mem_of_getElem? (i := 860) (by decide +kernel), List.mem_of_getElem? (i := 993) (by decide +kernel), List.mem_of_getElem? (i := 994) (by decide +kernel)⟩
theorem lw_p27 : lw_okq (⟨"RoofSnowModel", "warmthOf", "(I)I"⟩, 33) := ⟨⟨by decide +kernel, by decide +kernel⟩, List.mem_of_getElem? (i := 860) (by decide +kernel), List.mem_of_getElem? (i := 997) (by decide +kernel), List.mem_of_getElem? (i := 998) (by decide +kernel)⟩
theorem lw_p28 : lw_okq (⟨"RoofSnowModel", "hourOfDay", "()I"⟩, 33) := ⟨⟨by decide +kernel, by decide +kernel⟩, List.mem_of_getElem? (i := 860) (by decide +kernel), List.mem_of_getElem? (i := 1001) (by decide +kernel), List.mem_of_getElem? (i := 1002) (by decide +kernel)⟩
theorem lw_p29 : lw_okq (⟨"RoofSnowModel", "meltsOf", "(I)I"⟩, 33) := ⟨⟨by decide +kernel, by decide +kernel⟩, List.mem_of_getElem? (i := 860) (by decide +kernel), List.mem_of_getElem? (i := 1005) (by decide +kernel), List.mem_of_getElem? (i := 1006) (by decide +kernel)⟩
theorem lw_p30 : lw_okq (⟨"RoofSnowModel", "counts", "(I)I"⟩, 33) := ⟨⟨by decide +kernel, by decide +kernel⟩, List.mem_of_getElem? (i := 860) (by decide +kernel), List.mem_of_getElem? (i := 1009) (by decide +kernel), List.mem_of_getElem? (i := 1010) (by decide +kernel)⟩
theorem lw_p31 : lw_okq (⟨"RoofSnowModel", "worksOut", "(I)I"⟩, 33) := ⟨⟨by decide +kernel, by decide +kernel⟩, List.mem_of_getElem? (i := 860) (by decide +kernel), List.mem_of_getElem? (i := 1016) (by decide +kernel), List.mem_of_getElem? (i := 1017) (by decide +kernel)⟩
def lw_privs_2 : List (MethodName × Nat) := [(⟨"RoofSnow$Reader", "numberRead", "()I"⟩, 9), (⟨"RoofSnow$Reader", "addOperand", "(I)Z"⟩, 9), (⟨"RoofSnow$Reader", "addStep", "(I)Z"⟩, 9), (⟨"RoofSnow$Reader", "nameRead", "()I"⟩, 9), (⟨"RoofSnow$Reader", "isSign", "(I)Z"⟩, 9), (⟨"RoofSnow$Reader", "isSignOf", "(I)Z"⟩, 9), (⟨"RoofSnow", "isWaiting", "(III)Z"⟩, 13), (⟨"RoofSnowModel", "comes", "(II)I"⟩, 33), (⟨"RoofSnowModel", "put", "(III)V"⟩, 33), (⟨"RoofSnowModel", "isRoof", "(I)Z"⟩, 33), (⟨"RoofSnowModel", "of", "(II)I"⟩, 33), (⟨"RoofSnowModel", "warmthOf", "(I)I"⟩, 33), (⟨"RoofSnowModel", "hourOfDay", "()I"⟩, 33), (⟨"RoofSnowModel", "meltsOf", "(I)I"⟩, 33), (⟨"RoofSnowModel", "counts", "(I)I"⟩, 33), (⟨"RoofSnowModel", "worksOut", "(I)I"⟩, 33)]
theorem lw_r2 : ∀ q ∈ lw_privs_2, lw_okq q := List.forall_mem_cons.mpr ⟨lw_p16, List.forall_mem_cons.mpr ⟨lw_p17, List.forall_mem_cons.mpr ⟨lw_p18, List.forall_mem_cons.mpr ⟨lw_p19, List.forall_mem_cons.mpr ⟨lw_p20, List.forall_mem_cons.mpr ⟨lw_p21, List.forall_mem_cons.mpr ⟨lw_p22, List.forall_mem_cons.mpr ⟨lw_p23, List.forall_mem_cons.mpr ⟨lw_p24, List.forall_mem_cons.mpr ⟨lw_p25, List.forall_mem_cons.mpr ⟨lw_p26, List.forall_mem_cons.mpr ⟨lw_p27, List.forall_mem_cons.mpr ⟨lw_p28, List.forall_mem_cons.mpr ⟨lw_p29, List.forall_mem_cons.mpr ⟨lw_p30, List.forall_mem_cons.mpr ⟨lw_p31, fun _ h => absurd h List.not_mem_nil⟩⟩⟩⟩⟩⟩⟩⟩⟩⟩⟩⟩⟩⟩⟩⟩
theorem lw_p32 : lw_okq (⟨"RoofSnowModel", "bearsOf", "(I)I"⟩, 33) := ⟨⟨by decide +kernel, by decide +kernel⟩, List.mem_of_getElem? (i := 860) (by decide +kernel), List.mem_of_getElem? (i := 1023) (by decide +kernel), List.mem_of_getElem? (i := 1024) (by decide +kernel)⟩
theorem lw_p33 : lw_okq (⟨"RoofSnowModel", "owns", "(I)Z"⟩, 33) := ⟨⟨by decide +kernel, by decide +kernel⟩, List.mem_of_getElem? (i := 860) (by decide +kernel), List.mem_of_getElem? (i := 1027) (by decide +kernel), List.mem_of_getElem? (i := 1028) (by decide +kernel)⟩
theorem lw_p34 : lw_okq (⟨"RoofSnowModel", "worthOf", "(I)I"⟩, 33) := ⟨⟨by decide +kernel, by decide +kernel⟩, List.mem_of_getElem? (i := 860) (by decide +kernel), List.mem_of_getElem? (i := 1031) (by decide +kernel), List.mem_of_getElem? (i := 1032) (by decide +kernel)⟩
theorem lw_p35 : lw_okq (⟨"RoofSnowModel", "becomes", "(II)I"⟩, 33) := ⟨⟨by decide +kernel, by decide +kernel⟩, List.mem_of_getElem? (i := 860) (by decide +kernel), List.mem_of_getElem? (i := 1047) (by decide +kernel), List.mem_of_getElem? (i := 1048) (by decide +kernel)⟩
theorem lw_p36 : lw_okq (⟨"RoofSnowModel", "rains", "(II)V"⟩, 33) := ⟨⟨by decide +kernel, by decide +kernel⟩, List.mem_of_getElem? (i := 860) (by decide +kernel), List.mem_of_getElem? (i := 1055) (by decide +kernel), List.mem_of_getElem? (i := 1056) (by decide +kernel)⟩
theorem lw_p37 : lw_okq (⟨"RoofSnowModel", "draw", "()I"⟩, 33) := ⟨⟨by decide +kernel, by decide +kernel⟩, List.mem_of_getElem? (i := 860) (by decide +kernel), List.mem_of_getElem? (i := 1071) (by decide +kernel), List.mem_of_getElem? (i := 1072) (by decide +kernel)⟩
theorem lw_p38 : lw_okq (⟨"RoofSnowModel", "hours", "(I)I"⟩, 33) := ⟨⟨by decide +kernel, by decide +kernel⟩, List.mem_of_getElem? (i := 860) (by decide +kernel), List.mem_of_getElem? (i := 1096) (by decide +kernel), List.mem_of_getElem? (i := 1097) (by decide +kernel)⟩
theorem lw_p39 : lw_okq (⟨"RoofSnowModel", "hour", "()I"⟩, 33) := ⟨⟨by decide +kernel, by decide +kernel⟩, List.mem_of_getElem? (i := 860) (by decide +kernel), List.mem_of_getElem? (i := 1100) (by decide +kernel), List.mem_of_getElem? (i := 1101) (by decide +kernel)⟩
theorem lw_p40 : lw_okq (⟨"RoofSnowModel", "falls", "(II)V"⟩, 33) := ⟨⟨by decide +kernel, by decide +kernel⟩, List.mem_of_getElem? (i := 860) (by decide +kernel), List.mem_of_getElem? (i := 1104) (by decide +kernel), List.mem_of_getElem? (i := 1105) (by decide +kernel)⟩
theorem lw_p41 : lw_okq (⟨"RoofSnowModel", "snows", "(II)V"⟩, 33) := ⟨⟨by decide +kernel, by decide +kernel⟩, List.mem_of_getElem? (i := 860) (by decide +kernel), List.mem_of_getElem? (i := 1108) (by decide +kernel), List.mem_of_getElem? (i := 1109) (by decide +kernel)⟩
theorem lw_p42 : lw_okq (⟨"RoofSnowModel", "slides", "()I"⟩, 33) := ⟨⟨by decide +kernel, by decide +kernel⟩, List.mem_of_getElem? (i := 860) (by decide +kernel), List.mem_of_getElem? (i := 1112) (by decide +kernel), List.mem_of_getElem? (i := 1113) (by decide +kernel)⟩
theorem lw_p43 : lw_okq (⟨"RoofSnowModel", "sumOf", "(I)I"⟩, 33) := ⟨⟨by decide +kernel, by decide +kernel⟩, List.mem_of_getElem? (i := 860) (by decide +kernel), List.mem_of_getElem? (i := 1120) (by decide +kernel), List.mem_of_getElem? (i := 1121) (by decide +kernel)⟩
theorem lw_p44 : lw_okq (⟨"RoofSnowModel", "thinks", "()V"⟩, 33) := ⟨⟨by decide +kernel, by decide +kernel⟩, List.mem_of_getElem? (i := 860) (by decide +kernel), List.mem_of_getElem? (i := 1128) (by decide +kernel), List.mem_of_getElem? (i := 1129) (by decide +kernel)⟩
theorem lw_p45 : lw_okq (⟨"RoofSnowModel", "behindIt", "(II)I"⟩, 33) := ⟨⟨by decide +kernel, by decide +kernel⟩, List.mem_of_getElem? (i := 860) (by decide +kernel), List.mem_of_getElem? (i := 1135) (by decide +kernel), List.mem_of_getElem? (i := 1136) (by decide +kernel)⟩
theorem lw_p46 : lw_okq (⟨"RoofSnowModel", "putsBack", "()V"⟩, 33) := ⟨⟨by decide +kernel, by decide +kernel⟩, List.mem_of_getElem? (i := 860) (by decide +kernel), List.mem_of_getElem? (i := 1139) (by decide +kernel), List.mem_of_getElem? (i := 1140) (by decide +kernel)⟩
theorem lw_p47 : lw_okq (⟨"RoofSnowModel", "offBy", "(II)J"⟩, 33) := ⟨⟨by decide +kernel, by decide +kernel⟩, List.mem_of_getElem? (i := 860) (by decide +kernel), List.mem_of_getElem? (i := 1172) (by decide +kernel), List.mem_of_getElem? (i := 1173) (by decide +kernel)⟩
def lw_privs_3 : List (MethodName × Nat) := [(⟨"RoofSnowModel", "bearsOf", "(I)I"⟩, 33), (⟨"RoofSnowModel", "owns", "(I)Z"⟩, 33), (⟨"RoofSnowModel", "worthOf", "(I)I"⟩, 33), (⟨"RoofSnowModel", "becomes", "(II)I"⟩, 33), (⟨"RoofSnowModel", "rains", "(II)V"⟩, 33), (⟨"RoofSnowModel", "draw", "()I"⟩, 33), (⟨"RoofSnowModel", "hours", "(I)I"⟩, 33), (⟨"RoofSnowModel", "hour", "()I"⟩, 33), (⟨"RoofSnowModel", "falls", "(II)V"⟩, 33), (⟨"RoofSnowModel", "snows", "(II)V"⟩, 33), (⟨"RoofSnowModel", "slides", "()I"⟩, 33), (⟨"RoofSnowModel", "sumOf", "(I)I"⟩, 33), (⟨"RoofSnowModel", "thinks", "()V"⟩, 33), (⟨"RoofSnowModel", "behindIt", "(II)I"⟩, 33), (⟨"RoofSnowModel", "putsBack", "()V"⟩, 33), (⟨"RoofSnowModel", "offBy", "(II)J"⟩, 33)]
theorem lw_r3 : ∀ q ∈ lw_privs_3, lw_okq q := List.forall_mem_cons.mpr ⟨lw_p32, List.forall_mem_cons.mpr ⟨lw_p33, List.forall_mem_cons.mpr ⟨lw_p34, List.forall_mem_cons.mpr ⟨lw_p35, List.forall_mem_cons.mpr ⟨lw_p36, List.forall_mem_cons.mpr ⟨lw_p37, List.forall_mem_cons.mpr ⟨lw_p38, List.forall_mem_cons.mpr ⟨lw_p39, List.forall_mem_cons.mpr ⟨lw_p40, List.forall_mem_cons.mpr ⟨lw_p41, List.forall_mem_cons.mpr ⟨lw_p42, List.forall_mem_cons.mpr ⟨lw_p43, List.forall_mem_cons.mpr ⟨lw_p44, List.forall_mem_cons.mpr ⟨lw_p45, List.forall_mem_cons.mpr ⟨lw_p46, List.forall_mem_cons.mpr ⟨lw_p47, fun _ h => absurd h List.not_mem_nil⟩⟩⟩⟩⟩⟩⟩⟩⟩⟩⟩⟩⟩⟩⟩⟩
theorem lw_p48 : lw_okq (⟨"RoofSnowModel", "go", "()V"⟩, 33) := ⟨⟨by decide +kernel, by decide +kernel⟩, List.mem_of_getElem? (i := 860) (by decide +kernel), List.mem_of_getElem? (i := 1192) (by decide +kernel), List.mem_of_getElem? (i := 1193) (by decide +kernel)⟩
theorem lw_p49 : lw_okq (⟨"RoofSnowModel", "isLetter", "(I)Z"⟩, 33) := ⟨⟨by decide +kernel, by decide +kernel⟩, List.mem_of_getElem? (i := 860) (by decide +kernel), List.mem_of_getElem? (i := 1196) (by decide +kernel), List.mem_of_getElem? (i := 1197) (by decide +kernel)⟩
theorem lw_p50 : lw_okq (⟨"RoofSnowModel", "isFigure", "(I)Z"⟩, 33) := ⟨⟨by decide +kernel, by decide +kernel⟩, List.mem_of_getElem? (i := 860) (by decide +kernel), List.mem_of_getElem? (i := 1200) (by decide +kernel), List.mem_of_getElem? (i := 1201) (by decide +kernel)⟩
theorem lw_p51 : lw_okq (⟨"RoofSnowModel", "takesKey", "()Z"⟩, 33) := ⟨⟨by decide +kernel, by decide +kernel⟩, List.mem_of_getElem? (i := 860) (by decide +kernel), List.mem_of_getElem? (i := 1204) (by decide +kernel), List.mem_of_getElem? (i := 1205) (by decide +kernel)⟩
theorem lw_p52 : lw_okq (⟨"RoofSnowModel", "takesE", "()Z"⟩, 33) := ⟨⟨by decide +kernel, by decide +kernel⟩, List.mem_of_getElem? (i := 860) (by decide +kernel), List.mem_of_getElem? (i := 1208) (by decide +kernel), List.mem_of_getElem? (i := 1209) (by decide +kernel)⟩
theorem lw_p53 : lw_okq (⟨"RoofSnowModel", "takesPart", "()Z"⟩, 33) := ⟨⟨by decide +kernel, by decide +kernel⟩, List.mem_of_getElem? (i := 860) (by decide +kernel), List.mem_of_getElem? (i := 1212) (by decide +kernel), List.mem_of_getElem? (i := 1213) (by decide +kernel)⟩
theorem lw_p54 : lw_okq (⟨"RoofSnowModel", "nameOf", "(I)I"⟩, 33) := ⟨⟨by decide +kernel, by decide +kernel⟩, List.mem_of_getElem? (i := 860) (by decide +kernel), List.mem_of_getElem? (i := 1216) (by decide +kernel), List.mem_of_getElem? (i := 1217) (by decide +kernel)⟩
theorem lw_p55 : lw_okq (⟨"RoofSnowModel", "settle", "(I)V"⟩, 33) := ⟨⟨by decide +kernel, by decide +kernel⟩, List.mem_of_getElem? (i := 860) (by decide +kernel), List.mem_of_getElem? (i := 1220) (by decide +kernel), List.mem_of_getElem? (i := 1221) (by decide +kernel)⟩
theorem lw_p56 : lw_okq (⟨"RoofSnowModel", "notsOpen", "()I"⟩, 33) := ⟨⟨by decide +kernel, by decide +kernel⟩, List.mem_of_getElem? (i := 860) (by decide +kernel), List.mem_of_getElem? (i := 1227) (by decide +kernel), List.mem_of_getElem? (i := 1228) (by decide +kernel)⟩
theorem lw_p57 : lw_okq (⟨"RoofSnowModel", "signHere", "()I"⟩, 33) := ⟨⟨by decide +kernel, by decide +kernel⟩, List.mem_of_getElem? (i := 860) (by decide +kernel), List.mem_of_getElem? (i := 1231) (by decide +kernel), List.mem_of_getElem? (i := 1232) (by decide +kernel)⟩
def lw_privs_4 : List (MethodName × Nat) := [(⟨"RoofSnowModel", "go", "()V"⟩, 33), (⟨"RoofSnowModel", "isLetter", "(I)Z"⟩, 33), (⟨"RoofSnowModel", "isFigure", "(I)Z"⟩, 33), (⟨"RoofSnowModel", "takesKey", "()Z"⟩, 33), (⟨"RoofSnowModel", "takesE", "()Z"⟩, 33), (⟨"RoofSnowModel", "takesPart", "()Z"⟩, 33), (⟨"RoofSnowModel", "nameOf", "(I)I"⟩, 33), (⟨"RoofSnowModel", "settle", "(I)V"⟩, 33), (⟨"RoofSnowModel", "notsOpen", "()I"⟩, 33), (⟨"RoofSnowModel", "signHere", "()I"⟩, 33)]
theorem lw_r4 : ∀ q ∈ lw_privs_4, lw_okq q := List.forall_mem_cons.mpr ⟨lw_p48, List.forall_mem_cons.mpr ⟨lw_p49, List.forall_mem_cons.mpr ⟨lw_p50, List.forall_mem_cons.mpr ⟨lw_p51, List.forall_mem_cons.mpr ⟨lw_p52, List.forall_mem_cons.mpr ⟨lw_p53, List.forall_mem_cons.mpr ⟨lw_p54, List.forall_mem_cons.mpr ⟨lw_p55, List.forall_mem_cons.mpr ⟨lw_p56, List.forall_mem_cons.mpr ⟨lw_p57, fun _ h => absurd h List.not_mem_nil⟩⟩⟩⟩⟩⟩⟩⟩⟩⟩
def lw_privs : List (MethodName × Nat) := lw_privs_1 ++ (lw_privs_2 ++ (lw_privs_3 ++ (lw_privs_4)))
def lw_tbl : List Cond := k2_sels lw_privs ++ tables_1
theorem lw_privs_ok : ∀ q ∈ lw_privs, lw_okq q := by
  show ∀ q ∈ lw_privs_1 ++ (lw_privs_2 ++ (lw_privs_3 ++ (lw_privs_4))), lw_okq q
  exact List.forall_mem_append.mpr ⟨lw_r1, List.forall_mem_append.mpr ⟨lw_r2, List.forall_mem_append.mpr ⟨lw_r3, lw_r4⟩⟩⟩
end
section
def RX0 : String := "RoofSnow$Laws"
def TX0 : u_T := fun k => match k with
  | 0 => ("RoofSnow$Laws", "keys", "[I", true)
  | 1 => ("RoofSnow$Laws", "operands", "[I", true)
  | 2 => ("RoofSnow$Laws", "lengths", "[I", true)
  | 3 => ("RoofSnow$Laws", "steps", "[[I", true)
  | _ => ("RoofSnow$Laws", "stack", "[I", true)
def tyX0 : Nat → FieldType := fun k => match k with
  | 0 => .array .int
  | 1 => .array .int
  | 2 => .array .int
  | 3 => .array (.array .int)
  | _ => .array .int
abbrev wsX00 : List Cond := u_ws RX0 TX0 5
theorem nmX0 : ∀ a, a < 5 → ∀ b, b < 5 → a ≠ b → (TX0 a).2.1 ≠ (TX0 b).2.1 := by decide +kernel
theorem tyX0_ok : ∀ k, k < 5 → parseFieldDescriptor (TX0 k).2.2.1 = some (tyX0 k) := by decide +kernel
abbrev cX0_init : ByteArray := prog_2_method_1_code
def yX0_init : MethodName := ⟨RX0, "<init>", "()V"⟩
abbrev cX0_put : ByteArray := prog_2_method_2_code
def yX0_put : MethodName := ⟨RX0, "put", "(ILRoofSnow$Reader;)V"⟩
abbrev cX0_give : ByteArray := prog_2_method_3_code
def yX0_give : MethodName := ⟨RX0, "give", "(IIII)I"⟩
abbrev cX0_joined : ByteArray := prog_2_method_4_code
def yX0_joined : MethodName := ⟨RX0, "joined", "(III)I"⟩
def RX1 : String := "RoofSnow$Reader"
def TX1 : u_T := fun k => match k with
  | 0 => ("RoofSnow$Reader", "bytes", "[I", true)
  | 1 => ("RoofSnow$Reader", "steps", "[I", true)
  | 2 => ("RoofSnow$Reader", "length", "I", false)
  | 3 => ("RoofSnow$Reader", "key", "I", false)
  | 4 => ("RoofSnow$Reader", "operands", "I", false)
  | 5 => ("RoofSnow$Reader", "start", "I", false)
  | 6 => ("RoofSnow$Reader", "end", "I", false)
  | 7 => ("RoofSnow$Reader", "sort", "I", false)
  | _ => ("RoofSnow$Reader", "bytesLength", "I", false)
def tyX1 : Nat → FieldType := fun k => match k with
  | 0 => .array .int
  | 1 => .array .int
  | 2 => .int
  | 3 => .int
  | 4 => .int
  | 5 => .int
  | 6 => .int
  | 7 => .int
  | _ => .int
abbrev wsX10 : List Cond := u_ws RX1 TX1 9
theorem nmX1 : ∀ a, a < 9 → ∀ b, b < 9 → a ≠ b → (TX1 a).2.1 ≠ (TX1 b).2.1 := by decide +kernel
theorem tyX1_ok : ∀ k, k < 9 → parseFieldDescriptor (TX1 k).2.2.1 = some (tyX1 k) := by decide +kernel
abbrev cX1_init : ByteArray := prog_3_method_1_code
def yX1_init : MethodName := ⟨RX1, "<init>", "([I)V"⟩
abbrev cX1_readText : ByteArray := prog_3_method_2_code
def yX1_readText : MethodName := ⟨RX1, "readText", "(I)Z"⟩
abbrev cX1_readKey : ByteArray := prog_3_method_3_code
def yX1_readKey : MethodName := ⟨RX1, "readKey", "()Z"⟩
abbrev cX1_readLevel : ByteArray := prog_3_method_4_code
def yX1_readLevel : MethodName := ⟨RX1, "readLevel", "(III)Z"⟩
abbrev cX1_readPiece : ByteArray := prog_3_method_5_code
def yX1_readPiece : MethodName := ⟨RX1, "readPiece", "(II)Z"⟩
abbrev cX1_addOperand : ByteArray := prog_3_method_6_code
def yX1_addOperand : MethodName := ⟨RX1, "addOperand", "(I)Z"⟩
abbrev cX1_addStep : ByteArray := prog_3_method_7_code
def yX1_addStep : MethodName := ⟨RX1, "addStep", "(I)Z"⟩
abbrev cX1_isSign : ByteArray := prog_3_method_8_code
def yX1_isSign : MethodName := ⟨RX1, "isSign", "(I)Z"⟩
abbrev cX1_isSignOf : ByteArray := prog_3_method_9_code
def yX1_isSignOf : MethodName := ⟨RX1, "isSignOf", "(I)Z"⟩
abbrev cX1_numberRead : ByteArray := prog_3_method_10_code
def yX1_numberRead : MethodName := ⟨RX1, "numberRead", "()I"⟩
abbrev cX1_nameRead : ByteArray := prog_3_method_11_code
def yX1_nameRead : MethodName := ⟨RX1, "nameRead", "()I"⟩
abbrev cX1_isWord : ByteArray := prog_3_method_12_code
def yX1_isWord : MethodName := ⟨RX1, "isWord", "(Ljava/lang/String;)Z"⟩
abbrev cX1_keyWord : ByteArray := prog_3_method_13_code
def yX1_keyWord : MethodName := ⟨RX1, "keyWord", "(I)Ljava/lang/String;"⟩
abbrev cX1_namesOf : ByteArray := prog_3_method_14_code
def yX1_namesOf : MethodName := ⟨RX1, "namesOf", "(I)Ljava/lang/String;"⟩
abbrev cX1_goOn : ByteArray := prog_3_method_15_code
def yX1_goOn : MethodName := ⟨RX1, "goOn", "()V"⟩
abbrev cX1_sortOf : ByteArray := prog_3_method_16_code
def yX1_sortOf : MethodName := ⟨RX1, "sortOf", "(I)I"⟩
def RX2 : String := "RoofSnow$Roof"
def TX2 : u_T := fun k => match k with
  | 0 => ("RoofSnow$Roof", "kind", "I", false)
  | 1 => ("RoofSnow$Roof", "size", "I", false)
  | 2 => ("RoofSnow$Roof", "heat", "I", false)
  | 3 => ("RoofSnow$Roof", "room", "I", false)
  | 4 => ("RoofSnow$Roof", "water", "I", false)
  | _ => ("RoofSnow$Roof", "snow", "I", false)
def tyX2 : Nat → FieldType := fun k => match k with
  | 0 => .int
  | 1 => .int
  | 2 => .int
  | 3 => .int
  | 4 => .int
  | _ => .int
abbrev wsX20 : List Cond := u_ws RX2 TX2 6
theorem nmX2 : ∀ a, a < 6 → ∀ b, b < 6 → a ≠ b → (TX2 a).2.1 ≠ (TX2 b).2.1 := by decide +kernel
theorem tyX2_ok : ∀ k, k < 6 → parseFieldDescriptor (TX2 k).2.2.1 = some (tyX2 k) := by decide +kernel
abbrev cX2_init : ByteArray := prog_4_method_1_code
def yX2_init : MethodName := ⟨RX2, "<init>", "()V"⟩
abbrev cX2_begin : ByteArray := prog_4_method_2_code
def yX2_begin : MethodName := ⟨RX2, "begin", "(II)V"⟩
abbrev cX2_become : ByteArray := prog_4_method_3_code
def yX2_become : MethodName := ⟨RX2, "become", "(LRoofSnow$Roof;)V"⟩
abbrev cX2_isOf : ByteArray := prog_4_method_4_code
def yX2_isOf : MethodName := ⟨RX2, "isOf", "(I)Z"⟩
abbrev cX2_bears : ByteArray := prog_4_method_5_code
def yX2_bears : MethodName := ⟨RX2, "bears", "()I"⟩
abbrev cX2_worth : ByteArray := prog_4_method_6_code
def yX2_worth : MethodName := ⟨RX2, "worth", "()I"⟩
abbrev cX2_takeWater : ByteArray := prog_4_method_7_code
def yX2_takeWater : MethodName := ⟨RX2, "takeWater", "(I)I"⟩
abbrev cX2_takeSnow : ByteArray := prog_4_method_8_code
def yX2_takeSnow : MethodName := ⟨RX2, "takeSnow", "(I)I"⟩
def RX3 : String := "RoofSnow$Sheet"
def TX3 : u_T := fun k => match k with
  | 0 => ("RoofSnow$Sheet", "sort", "I", false)
  | 1 => ("RoofSnow$Sheet", "places", "I", false)
  | _ => ("RoofSnow$Sheet", "row", "[I", true)
def tyX3 : Nat → FieldType := fun k => match k with
  | 0 => .int
  | 1 => .int
  | _ => .array .int
abbrev wsX30 : List Cond := u_ws RX3 TX3 3
theorem nmX3 : ∀ a, a < 3 → ∀ b, b < 3 → a ≠ b → (TX3 a).2.1 ≠ (TX3 b).2.1 := by decide +kernel
theorem tyX3_ok : ∀ k, k < 3 → parseFieldDescriptor (TX3 k).2.2.1 = some (tyX3 k) := by decide +kernel
abbrev cX3_init : ByteArray := prog_5_method_1_code
def yX3_init : MethodName := ⟨RX3, "<init>", "()V"⟩
abbrev cX3_isMissing : ByteArray := prog_5_method_2_code
def yX3_isMissing : MethodName := ⟨RX3, "isMissing", "()Z"⟩
abbrev cX3_lose : ByteArray := prog_5_method_3_code
def yX3_lose : MethodName := ⟨RX3, "lose", "()V"⟩
abbrev cX3_begin : ByteArray := prog_5_method_4_code
def yX3_begin : MethodName := ⟨RX3, "begin", "(II)V"⟩
abbrev cX3_become : ByteArray := prog_5_method_5_code
def yX3_become : MethodName := ⟨RX3, "become", "(LRoofSnow$Sheet;)V"⟩
abbrev cX3_hasPlace : ByteArray := prog_5_method_6_code
def yX3_hasPlace : MethodName := ⟨RX3, "hasPlace", "(I)Z"⟩
abbrev cX3_hasPlaces : ByteArray := prog_5_method_7_code
def yX3_hasPlaces : MethodName := ⟨RX3, "hasPlaces", "(II)Z"⟩
abbrev cX3_isNumber : ByteArray := prog_5_method_8_code
def yX3_isNumber : MethodName := ⟨RX3, "isNumber", "(I)Z"⟩
abbrev cX3_write : ByteArray := prog_5_method_9_code
def yX3_write : MethodName := ⟨RX3, "write", "(II)I"⟩
def RX4 : String := "RoofSnow$Slot"
def TX4 : u_T := fun k => match k with
  | 0 => ("RoofSnow$Slot", "thing", "I", false)
  | 1 => ("RoofSnow$Slot", "number", "I", false)
  | 2 => ("RoofSnow$Slot", "roofHeld", "LRoofSnow$Roof;", true)
  | _ => ("RoofSnow$Slot", "sheetHeld", "LRoofSnow$Sheet;", true)
def tyX4 : Nat → FieldType := fun k => match k with
  | 0 => .int
  | 1 => .int
  | 2 => .object "RoofSnow$Roof"
  | _ => .object "RoofSnow$Sheet"
abbrev wsX40 : List Cond := u_ws RX4 TX4 4
theorem nmX4 : ∀ a, a < 4 → ∀ b, b < 4 → a ≠ b → (TX4 a).2.1 ≠ (TX4 b).2.1 := by decide +kernel
theorem tyX4_ok : ∀ k, k < 4 → parseFieldDescriptor (TX4 k).2.2.1 = some (tyX4 k) := by decide +kernel
abbrev cX4_init : ByteArray := prog_6_method_1_code
def yX4_init : MethodName := ⟨RX4, "<init>", "()V"⟩
abbrev cX4_findingFor : ByteArray := prog_6_method_2_code
def yX4_findingFor : MethodName := ⟨RX4, "findingFor", "(I)I"⟩
def RX5 : String := "RoofSnow$World"
def TX5 : u_T := fun k => match k with
  | 0 => ("RoofSnow$World", "laws", "LRoofSnow$Laws;", true)
  | 1 => ("RoofSnow$World", "roofs", "[LRoofSnow$Roof;", true)
  | 2 => ("RoofSnow$World", "air", "[I", true)
  | 3 => ("RoofSnow$World", "fall", "[I", true)
  | 4 => ("RoofSnow$World", "counting", "[I", true)
  | 5 => ("RoofSnow$World", "texts", "I", false)
  | 6 => ("RoofSnow$World", "many", "I", false)
  | 7 => ("RoofSnow$World", "dusk", "I", false)
  | 8 => ("RoofSnow$World", "hour", "I", false)
  | 9 => ("RoofSnow$World", "z", "I", false)
  | 10 => ("RoofSnow$World", "streetSnow", "I", false)
  | 11 => ("RoofSnow$World", "streetWater", "I", false)
  | 12 => ("RoofSnow$World", "nobodys", "I", false)
  | 13 => ("RoofSnow$World", "lost", "I", false)
  | 14 => ("RoofSnow$World", "stolen", "I", false)
  | _ => ("RoofSnow$World", "used", "I", false)
def tyX5 : Nat → FieldType := fun k => match k with
  | 0 => .object "RoofSnow$Laws"
  | 1 => .array (.object "RoofSnow$Roof")
  | 2 => .array .int
  | 3 => .array .int
  | 4 => .array .int
  | 5 => .int
  | 6 => .int
  | 7 => .int
  | 8 => .int
  | 9 => .int
  | 10 => .int
  | 11 => .int
  | 12 => .int
  | 13 => .int
  | 14 => .int
  | _ => .int
abbrev wsX50 : List Cond := u_ws RX5 TX5 16
theorem nmX5 : ∀ a, a < 16 → ∀ b, b < 16 → a ≠ b → (TX5 a).2.1 ≠ (TX5 b).2.1 := by decide +kernel
theorem tyX5_ok : ∀ k, k < 16 → parseFieldDescriptor (TX5 k).2.2.1 = some (tyX5 k) := by decide +kernel
abbrev cX5_init : ByteArray := prog_7_method_1_code
def yX5_init : MethodName := ⟨RX5, "<init>", "(LRoofSnow$Laws;)V"⟩
abbrev cX5_become : ByteArray := prog_7_method_2_code
def yX5_become : MethodName := ⟨RX5, "become", "(LRoofSnow$World;)V"⟩
abbrev cX5_addRoof : ByteArray := prog_7_method_3_code
def yX5_addRoof : MethodName := ⟨RX5, "addRoof", "(II)I"⟩
abbrev cX5_draw : ByteArray := prog_7_method_4_code
def yX5_draw : MethodName := ⟨RX5, "draw", "()I"⟩
abbrev cX5_hourOfDay : ByteArray := prog_7_method_5_code
def yX5_hourOfDay : MethodName := ⟨RX5, "hourOfDay", "()I"⟩
abbrev cX5_hoursLeft : ByteArray := prog_7_method_6_code
def yX5_hoursLeft : MethodName := ⟨RX5, "hoursLeft", "()I"⟩
abbrev cX5_warmth : ByteArray := prog_7_method_7_code
def yX5_warmth : MethodName := ⟨RX5, "warmth", "(LRoofSnow$Roof;)I"⟩
abbrev cX5_melts : ByteArray := prog_7_method_8_code
def yX5_melts : MethodName := ⟨RX5, "melts", "(LRoofSnow$Roof;)I"⟩
abbrev cX5_owns : ByteArray := prog_7_method_9_code
def yX5_owns : MethodName := ⟨RX5, "owns", "(LRoofSnow$Roof;)Z"⟩
abbrev cX5_fineFor : ByteArray := prog_7_method_10_code
def yX5_fineFor : MethodName := ⟨RX5, "fineFor", "(LRoofSnow$Roof;)I"⟩
abbrev cX5_passHours : ByteArray := prog_7_method_11_code
def yX5_passHours : MethodName := ⟨RX5, "passHours", "(I)I"⟩
abbrev cX5_passHour : ByteArray := prog_7_method_12_code
def yX5_passHour : MethodName := ⟨RX5, "passHour", "()I"⟩
abbrev cX5_letRain : ByteArray := prog_7_method_13_code
def yX5_letRain : MethodName := ⟨RX5, "letRain", "(I)V"⟩
abbrev cX5_letSnow : ByteArray := prog_7_method_14_code
def yX5_letSnow : MethodName := ⟨RX5, "letSnow", "(I)V"⟩
abbrev cX5_letHail : ByteArray := prog_7_method_15_code
def yX5_letHail : MethodName := ⟨RX5, "letHail", "(I)V"⟩
abbrev cX5_letSlide : ByteArray := prog_7_method_16_code
def yX5_letSlide : MethodName := ⟨RX5, "letSlide", "()I"⟩
abbrev cX5_letMelt : ByteArray := prog_7_method_17_code
def yX5_letMelt : MethodName := ⟨RX5, "letMelt", "()V"⟩
abbrev cX5_roofsWater : ByteArray := prog_7_method_18_code
def yX5_roofsWater : MethodName := ⟨RX5, "roofsWater", "()I"⟩
abbrev cX5_roofsSnow : ByteArray := prog_7_method_19_code
def yX5_roofsSnow : MethodName := ⟨RX5, "roofsSnow", "()I"⟩
abbrev cX5_allKilos : ByteArray := prog_7_method_20_code
def yX5_allKilos : MethodName := ⟨RX5, "allKilos", "()I"⟩
def RX6 : String := "RoofSnow"
def TX6 : u_T := fun k => match k with
  | 0 => ("RoofSnow", "laws", "LRoofSnow$Laws;", true)
  | 1 => ("RoofSnow", "now", "LRoofSnow$World;", true)
  | 2 => ("RoofSnow", "image", "LRoofSnow$World;", true)
  | 3 => ("RoofSnow", "thought", "LRoofSnow$World;", true)
  | 4 => ("RoofSnow", "imageKept", "Z", false)
  | 5 => ("RoofSnow", "tape", "[I", true)
  | 6 => ("RoofSnow", "tapeLength", "I", false)
  | 7 => ("RoofSnow", "reader", "LRoofSnow$Reader;", true)
  | 8 => ("RoofSnow", "sheets", "[LRoofSnow$Sheet;", true)
  | 9 => ("RoofSnow", "slots", "[LRoofSnow$Slot;", true)
  | 10 => ("RoofSnow", "waiting", "[I", true)
  | 11 => ("RoofSnow", "waits", "I", false)
  | _ => ("RoofSnow", "waters", "[I", true)
def tyX6 : Nat → FieldType := fun k => match k with
  | 0 => .object "RoofSnow$Laws"
  | 1 => .object "RoofSnow$World"
  | 2 => .object "RoofSnow$World"
  | 3 => .object "RoofSnow$World"
  | 4 => .boolean
  | 5 => .array .int
  | 6 => .int
  | 7 => .object "RoofSnow$Reader"
  | 8 => .array (.object "RoofSnow$Sheet")
  | 9 => .array (.object "RoofSnow$Slot")
  | 10 => .array .int
  | 11 => .int
  | _ => .array .int
abbrev wsX60 : List Cond := u_ws RX6 TX6 13
theorem nmX6 : ∀ a, a < 13 → ∀ b, b < 13 → a ≠ b → (TX6 a).2.1 ≠ (TX6 b).2.1 := by decide +kernel
theorem tyX6_ok : ∀ k, k < 13 → parseFieldDescriptor (TX6 k).2.2.1 = some (tyX6 k) := by decide +kernel
abbrev cX6_init : ByteArray := prog_1_method_1_code
def yX6_init : MethodName := ⟨RX6, "<init>", "()V"⟩
abbrev cX6_roof : ByteArray := prog_1_method_2_code
def yX6_roof : MethodName := ⟨RX6, "roof", "(II)I"⟩
abbrev cX6_told : ByteArray := prog_1_method_3_code
def yX6_told : MethodName := ⟨RX6, "told", "(II)I"⟩
abbrev cX6_as : ByteArray := prog_1_method_4_code
def yX6_as : MethodName := ⟨RX6, "as", "(II)I"⟩
abbrev cX6_turns : ByteArray := prog_1_method_5_code
def yX6_turns : MethodName := ⟨RX6, "turns", "(II)I"⟩
abbrev cX6_set : ByteArray := prog_1_method_6_code
def yX6_set : MethodName := ⟨RX6, "set", "(III)I"⟩
abbrev cX6_sweep : ByteArray := prog_1_method_7_code
def yX6_sweep : MethodName := ⟨RX6, "sweep", "(II)I"⟩
abbrev cX6_use : ByteArray := prog_1_method_8_code
def yX6_use : MethodName := ⟨RX6, "use", "(II)I"⟩
abbrev cX6_deal : ByteArray := prog_1_method_9_code
def yX6_deal : MethodName := ⟨RX6, "deal", "(I)I"⟩
abbrev cX6_seed : ByteArray := prog_1_method_10_code
def yX6_seed : MethodName := ⟨RX6, "seed", "(I)I"⟩
abbrev cX6_weather : ByteArray := prog_1_method_11_code
def yX6_weather : MethodName := ⟨RX6, "weather", "(III)I"⟩
abbrev cX6_sky : ByteArray := prog_1_method_12_code
def yX6_sky : MethodName := ⟨RX6, "sky", "()I"⟩
abbrev cX6_sunset : ByteArray := prog_1_method_13_code
def yX6_sunset : MethodName := ⟨RX6, "sunset", "(I)I"⟩
abbrev cX6_run : ByteArray := prog_1_method_14_code
def yX6_run : MethodName := ⟨RX6, "run", "(I)I"⟩
abbrev cX6_kilos : ByteArray := prog_1_method_15_code
def yX6_kilos : MethodName := ⟨RX6, "kilos", "(I)I"⟩
abbrev cX6_behind : ByteArray := prog_1_method_16_code
def yX6_behind : MethodName := ⟨RX6, "behind", "(III)I"⟩
abbrev cX6_best : ByteArray := prog_1_method_17_code
def yX6_best : MethodName := ⟨RX6, "best", "(III)I"⟩
abbrev cX6_leastRoom : ByteArray := prog_1_method_18_code
def yX6_leastRoom : MethodName := ⟨RX6, "leastRoom", "(II)I"⟩
abbrev cX6_slide : ByteArray := prog_1_method_19_code
def yX6_slide : MethodName := ⟨RX6, "slide", "()I"⟩
abbrev cX6_gains : ByteArray := prog_1_method_20_code
def yX6_gains : MethodName := ⟨RX6, "gains", "(II)I"⟩
abbrev cX6_explained : ByteArray := prog_1_method_21_code
def yX6_explained : MethodName := ⟨RX6, "explained", "(II)I"⟩
abbrev cX6_fine : ByteArray := prog_1_method_22_code
def yX6_fine : MethodName := ⟨RX6, "fine", "(I)I"⟩
abbrev cX6_feed : ByteArray := prog_1_method_23_code
def yX6_feed : MethodName := ⟨RX6, "feed", "(III)I"⟩
abbrev cX6_trim : ByteArray := prog_1_method_24_code
def yX6_trim : MethodName := ⟨RX6, "trim", "(I)I"⟩
abbrev cX6_text : ByteArray := prog_1_method_25_code
def yX6_text : MethodName := ⟨RX6, "text", "()I"⟩
abbrev cX6_textTold : ByteArray := prog_1_method_26_code
def yX6_textTold : MethodName := ⟨RX6, "textTold", "(II)I"⟩
abbrev cX6_why : ByteArray := prog_1_method_27_code
def yX6_why : MethodName := ⟨RX6, "why", "(I)I"⟩
abbrev cX6_sheet : ByteArray := prog_1_method_28_code
def yX6_sheet : MethodName := ⟨RX6, "sheet", "(III)I"⟩
abbrev cX6_mark : ByteArray := prog_1_method_29_code
def yX6_mark : MethodName := ⟨RX6, "mark", "(III)I"⟩
abbrev cX6_pour : ByteArray := prog_1_method_30_code
def yX6_pour : MethodName := ⟨RX6, "pour", "(I)I"⟩
abbrev cX6_reads : ByteArray := prog_1_method_31_code
def yX6_reads : MethodName := ⟨RX6, "reads", "(I)I"⟩
abbrev cX6_copy : ByteArray := prog_1_method_32_code
def yX6_copy : MethodName := ⟨RX6, "copy", "(IIIII)I"⟩
abbrev cX6_lay : ByteArray := prog_1_method_33_code
def yX6_lay : MethodName := ⟨RX6, "lay", "(III)I"⟩
abbrev cX6_ask : ByteArray := prog_1_method_34_code
def yX6_ask : MethodName := ⟨RX6, "ask", "(II)I"⟩
abbrev cX6_item : ByteArray := prog_1_method_35_code
def yX6_item : MethodName := ⟨RX6, "item", "(II)I"⟩
abbrev cX6_rest : ByteArray := prog_1_method_36_code
def yX6_rest : MethodName := ⟨RX6, "rest", "(II)I"⟩
abbrev cX6_tell : ByteArray := prog_1_method_37_code
def yX6_tell : MethodName := ⟨RX6, "tell", "(I)I"⟩
abbrev cX6_check : ByteArray := prog_1_method_38_code
def yX6_check : MethodName := ⟨RX6, "check", "(I)I"⟩
abbrev cX6_keep : ByteArray := prog_1_method_39_code
def yX6_keep : MethodName := ⟨RX6, "keep", "()I"⟩
abbrev cX6_back : ByteArray := prog_1_method_40_code
def yX6_back : MethodName := ⟨RX6, "back", "()I"⟩
abbrev cX6_count : ByteArray := prog_1_method_41_code
def yX6_count : MethodName := ⟨RX6, "count", "(I)I"⟩
abbrev cX6_isWithin : ByteArray := prog_1_method_42_code
def yX6_isWithin : MethodName := ⟨RX6, "isWithin", "(III)Z"⟩
abbrev cX6_isKind : ByteArray := prog_1_method_43_code
def yX6_isKind : MethodName := ⟨RX6, "isKind", "(I)Z"⟩
abbrev cX6_isRoof : ByteArray := prog_1_method_44_code
def yX6_isRoof : MethodName := ⟨RX6, "isRoof", "(I)Z"⟩
abbrev cX6_isSheet : ByteArray := prog_1_method_45_code
def yX6_isSheet : MethodName := ⟨RX6, "isSheet", "(I)Z"⟩
abbrev cX6_isSlot : ByteArray := prog_1_method_46_code
def yX6_isSlot : MethodName := ⟨RX6, "isSlot", "(I)Z"⟩
abbrev cX6_changeSize : ByteArray := prog_1_method_47_code
def yX6_changeSize : MethodName := ⟨RX6, "changeSize", "(LRoofSnow$Roof;I)I"⟩
abbrev cX6_changeHeat : ByteArray := prog_1_method_48_code
def yX6_changeHeat : MethodName := ⟨RX6, "changeHeat", "(LRoofSnow$Roof;I)I"⟩
abbrev cX6_changeRoom : ByteArray := prog_1_method_49_code
def yX6_changeRoom : MethodName := ⟨RX6, "changeRoom", "(LRoofSnow$Roof;I)I"⟩
abbrev cX6_change : ByteArray := prog_1_method_50_code
def yX6_change : MethodName := ⟨RX6, "change", "([III)I"⟩
abbrev cX6_yieldOfHeat : ByteArray := prog_1_method_51_code
def yX6_yieldOfHeat : MethodName := ⟨RX6, "yieldOfHeat", "(III)I"⟩
abbrev cX6_thinkOfWaters : ByteArray := prog_1_method_52_code
def yX6_thinkOfWaters : MethodName := ⟨RX6, "thinkOfWaters", "(I)V"⟩
abbrev cX6_misfit : ByteArray := prog_1_method_53_code
def yX6_misfit : MethodName := ⟨RX6, "misfit", "(LRoofSnow$Sheet;I)I"⟩
abbrev cX6_putBytes : ByteArray := prog_1_method_54_code
def yX6_putBytes : MethodName := ⟨RX6, "putBytes", "(II)V"⟩
abbrev cX6_isWaiting : ByteArray := prog_1_method_55_code
def yX6_isWaiting : MethodName := ⟨RX6, "isWaiting", "(III)Z"⟩
def RX7 : String := "RoofSnowModel"
def TX7 : u_T := fun k => match k with
  | 0 => ("RoofSnowModel", "now", "[I", true)
  | 1 => ("RoofSnowModel", "image", "[I", true)
  | 2 => ("RoofSnowModel", "aside", "[I", true)
  | 3 => ("RoofSnowModel", "hasImage", "Z", false)
  | 4 => ("RoofSnowModel", "before", "[I", true)
  | 5 => ("RoofSnowModel", "tape", "[I", true)
  | 6 => ("RoofSnowModel", "taped", "I", false)
  | 7 => ("RoofSnowModel", "next", "I", false)
  | 8 => ("RoofSnowModel", "from", "I", false)
  | 9 => ("RoofSnowModel", "token", "I", false)
  | 10 => ("RoofSnowModel", "value", "I", false)
  | 11 => ("RoofSnowModel", "ended", "I", false)
  | 12 => ("RoofSnowModel", "key", "I", false)
  | 13 => ("RoofSnowModel", "keys", "[C", true)
  | 14 => ("RoofSnowModel", "keyAt", "[I", true)
  | 15 => ("RoofSnowModel", "code", "[I", true)
  | 16 => ("RoofSnowModel", "codes", "I", false)
  | 17 => ("RoofSnowModel", "atoms", "I", false)
  | 18 => ("RoofSnowModel", "waits", "[I", true)
  | 19 => ("RoofSnowModel", "held", "I", false)
  | 20 => ("RoofSnowModel", "tested", "[Z", true)
  | 21 => ("RoofSnowModel", "stack", "[I", true)
  | 22 => ("RoofSnowModel", "facts", "[I", true)
  | 23 => ("RoofSnowModel", "sorts", "[I", true)
  | 24 => ("RoofSnowModel", "sizes", "[I", true)
  | 25 => ("RoofSnowModel", "cells", "[I", true)
  | 26 => ("RoofSnowModel", "holds", "[I", true)
  | 27 => ("RoofSnowModel", "holdsA", "[I", true)
  | 28 => ("RoofSnowModel", "holdsB", "[I", true)
  | 29 => ("RoofSnowModel", "heldCells", "[I", true)
  | 30 => ("RoofSnowModel", "moved", "[I", true)
  | 31 => ("RoofSnowModel", "tells", "[I", true)
  | _ => ("RoofSnowModel", "waiting", "I", false)
def tyX7 : Nat → FieldType := fun k => match k with
  | 0 => .array .int
  | 1 => .array .int
  | 2 => .array .int
  | 3 => .boolean
  | 4 => .array .int
  | 5 => .array .int
  | 6 => .int
  | 7 => .int
  | 8 => .int
  | 9 => .int
  | 10 => .int
  | 11 => .int
  | 12 => .int
  | 13 => .array .char
  | 14 => .array .int
  | 15 => .array .int
  | 16 => .int
  | 17 => .int
  | 18 => .array .int
  | 19 => .int
  | 20 => .array .boolean
  | 21 => .array .int
  | 22 => .array .int
  | 23 => .array .int
  | 24 => .array .int
  | 25 => .array .int
  | 26 => .array .int
  | 27 => .array .int
  | 28 => .array .int
  | 29 => .array .int
  | 30 => .array .int
  | 31 => .array .int
  | _ => .int
abbrev wsX70 : List Cond := u_ws RX7 TX7 33
theorem nmX7 : ∀ a, a < 33 → ∀ b, b < 33 → a ≠ b → (TX7 a).2.1 ≠ (TX7 b).2.1 := by decide +kernel
theorem tyX7_ok : ∀ k, k < 33 → parseFieldDescriptor (TX7 k).2.2.1 = some (tyX7 k) := by decide +kernel
abbrev cX7_init : ByteArray := prog_9_method_1_code
def yX7_init : MethodName := ⟨RX7, "<init>", "()V"⟩
abbrev cX7_in : ByteArray := prog_9_method_2_code
def yX7_in : MethodName := ⟨RX7, "in", "(III)Z"⟩
abbrev cX7_within : ByteArray := prog_9_method_3_code
def yX7_within : MethodName := ⟨RX7, "within", "(III)I"⟩
abbrev cX7_copyAll : ByteArray := prog_9_method_4_code
def yX7_copyAll : MethodName := ⟨RX7, "copyAll", "([I[I)V"⟩
abbrev cX7_told0 : ByteArray := prog_9_method_5_code
def yX7_told0 : MethodName := ⟨RX7, "told0", "(I)I"⟩
abbrev cX7_isRoof : ByteArray := prog_9_method_6_code
def yX7_isRoof : MethodName := ⟨RX7, "isRoof", "(I)Z"⟩
abbrev cX7_of : ByteArray := prog_9_method_7_code
def yX7_of : MethodName := ⟨RX7, "of", "(II)I"⟩
abbrev cX7_put : ByteArray := prog_9_method_8_code
def yX7_put : MethodName := ⟨RX7, "put", "(III)V"⟩
abbrev cX7_becomes : ByteArray := prog_9_method_9_code
def yX7_becomes : MethodName := ⟨RX7, "becomes", "(II)I"⟩
abbrev cX7_hourOfDay : ByteArray := prog_9_method_10_code
def yX7_hourOfDay : MethodName := ⟨RX7, "hourOfDay", "()I"⟩
abbrev cX7_comes : ByteArray := prog_9_method_11_code
def yX7_comes : MethodName := ⟨RX7, "comes", "(II)I"⟩
abbrev cX7_roof : ByteArray := prog_9_method_12_code
def yX7_roof : MethodName := ⟨RX7, "roof", "(II)I"⟩
abbrev cX7_warmthOf : ByteArray := prog_9_method_13_code
def yX7_warmthOf : MethodName := ⟨RX7, "warmthOf", "(I)I"⟩
abbrev cX7_meltsOf : ByteArray := prog_9_method_14_code
def yX7_meltsOf : MethodName := ⟨RX7, "meltsOf", "(I)I"⟩
abbrev cX7_bearsOf : ByteArray := prog_9_method_15_code
def yX7_bearsOf : MethodName := ⟨RX7, "bearsOf", "(I)I"⟩
abbrev cX7_owns : ByteArray := prog_9_method_16_code
def yX7_owns : MethodName := ⟨RX7, "owns", "(I)Z"⟩
abbrev cX7_worthOf : ByteArray := prog_9_method_17_code
def yX7_worthOf : MethodName := ⟨RX7, "worthOf", "(I)I"⟩
abbrev cX7_told : ByteArray := prog_9_method_18_code
def yX7_told : MethodName := ⟨RX7, "told", "(II)I"⟩
abbrev cX7_isUnder : ByteArray := prog_9_method_19_code
def yX7_isUnder : MethodName := ⟨RX7, "isUnder", "(II)Z"⟩
abbrev cX7_as : ByteArray := prog_9_method_20_code
def yX7_as : MethodName := ⟨RX7, "as", "(II)I"⟩
abbrev cX7_turns : ByteArray := prog_9_method_21_code
def yX7_turns : MethodName := ⟨RX7, "turns", "(II)I"⟩
abbrev cX7_rains : ByteArray := prog_9_method_22_code
def yX7_rains : MethodName := ⟨RX7, "rains", "(II)V"⟩
abbrev cX7_set : ByteArray := prog_9_method_23_code
def yX7_set : MethodName := ⟨RX7, "set", "(III)I"⟩
abbrev cX7_sweep : ByteArray := prog_9_method_24_code
def yX7_sweep : MethodName := ⟨RX7, "sweep", "(II)I"⟩
abbrev cX7_use : ByteArray := prog_9_method_25_code
def yX7_use : MethodName := ⟨RX7, "use", "(II)I"⟩
abbrev cX7_draw : ByteArray := prog_9_method_26_code
def yX7_draw : MethodName := ⟨RX7, "draw", "()I"⟩
abbrev cX7_deal : ByteArray := prog_9_method_27_code
def yX7_deal : MethodName := ⟨RX7, "deal", "(I)I"⟩
abbrev cX7_seed : ByteArray := prog_9_method_28_code
def yX7_seed : MethodName := ⟨RX7, "seed", "(I)I"⟩
abbrev cX7_weather : ByteArray := prog_9_method_29_code
def yX7_weather : MethodName := ⟨RX7, "weather", "(III)I"⟩
abbrev cX7_sky : ByteArray := prog_9_method_30_code
def yX7_sky : MethodName := ⟨RX7, "sky", "()I"⟩
abbrev cX7_sunset : ByteArray := prog_9_method_31_code
def yX7_sunset : MethodName := ⟨RX7, "sunset", "(I)I"⟩
abbrev cX7_snows : ByteArray := prog_9_method_32_code
def yX7_snows : MethodName := ⟨RX7, "snows", "(II)V"⟩
abbrev cX7_falls : ByteArray := prog_9_method_33_code
def yX7_falls : MethodName := ⟨RX7, "falls", "(II)V"⟩
abbrev cX7_slides : ByteArray := prog_9_method_34_code
def yX7_slides : MethodName := ⟨RX7, "slides", "()I"⟩
abbrev cX7_hour : ByteArray := prog_9_method_35_code
def yX7_hour : MethodName := ⟨RX7, "hour", "()I"⟩
abbrev cX7_hours : ByteArray := prog_9_method_36_code
def yX7_hours : MethodName := ⟨RX7, "hours", "(I)I"⟩
abbrev cX7_run : ByteArray := prog_9_method_37_code
def yX7_run : MethodName := ⟨RX7, "run", "(I)I"⟩
abbrev cX7_sumOf : ByteArray := prog_9_method_38_code
def yX7_sumOf : MethodName := ⟨RX7, "sumOf", "(I)I"⟩
abbrev cX7_kilos : ByteArray := prog_9_method_39_code
def yX7_kilos : MethodName := ⟨RX7, "kilos", "(I)I"⟩
abbrev cX7_thinks : ByteArray := prog_9_method_40_code
def yX7_thinks : MethodName := ⟨RX7, "thinks", "()V"⟩
abbrev cX7_putsBack : ByteArray := prog_9_method_41_code
def yX7_putsBack : MethodName := ⟨RX7, "putsBack", "()V"⟩
abbrev cX7_behindIt : ByteArray := prog_9_method_42_code
def yX7_behindIt : MethodName := ⟨RX7, "behindIt", "(II)I"⟩
abbrev cX7_waterAt : ByteArray := prog_9_method_43_code
def yX7_waterAt : MethodName := ⟨RX7, "waterAt", "(I)I"⟩
abbrev cX7_behind : ByteArray := prog_9_method_44_code
def yX7_behind : MethodName := ⟨RX7, "behind", "(III)I"⟩
abbrev cX7_best : ByteArray := prog_9_method_45_code
def yX7_best : MethodName := ⟨RX7, "best", "(III)I"⟩
abbrev cX7_leastRoom : ByteArray := prog_9_method_46_code
def yX7_leastRoom : MethodName := ⟨RX7, "leastRoom", "(II)I"⟩
abbrev cX7_slide : ByteArray := prog_9_method_47_code
def yX7_slide : MethodName := ⟨RX7, "slide", "()I"⟩
abbrev cX7_gains : ByteArray := prog_9_method_48_code
def yX7_gains : MethodName := ⟨RX7, "gains", "(II)I"⟩
abbrev cX7_offBy : ByteArray := prog_9_method_49_code
def yX7_offBy : MethodName := ⟨RX7, "offBy", "(II)J"⟩
abbrev cX7_explained : ByteArray := prog_9_method_50_code
def yX7_explained : MethodName := ⟨RX7, "explained", "(II)I"⟩
abbrev cX7_fine : ByteArray := prog_9_method_51_code
def yX7_fine : MethodName := ⟨RX7, "fine", "(I)I"⟩
abbrev cX7_feed : ByteArray := prog_9_method_52_code
def yX7_feed : MethodName := ⟨RX7, "feed", "(III)I"⟩
abbrev cX7_trim : ByteArray := prog_9_method_53_code
def yX7_trim : MethodName := ⟨RX7, "trim", "(I)I"⟩
abbrev cX7_isLetter : ByteArray := prog_9_method_54_code
def yX7_isLetter : MethodName := ⟨RX7, "isLetter", "(I)Z"⟩
abbrev cX7_isFigure : ByteArray := prog_9_method_55_code
def yX7_isFigure : MethodName := ⟨RX7, "isFigure", "(I)Z"⟩
abbrev cX7_go : ByteArray := prog_9_method_56_code
def yX7_go : MethodName := ⟨RX7, "go", "()V"⟩
abbrev cX7_takesKey : ByteArray := prog_9_method_57_code
def yX7_takesKey : MethodName := ⟨RX7, "takesKey", "()Z"⟩
abbrev cX7_nameOf : ByteArray := prog_9_method_58_code
def yX7_nameOf : MethodName := ⟨RX7, "nameOf", "(I)I"⟩
abbrev cX7_rank : ByteArray := prog_9_method_59_code
def yX7_rank : MethodName := ⟨RX7, "rank", "(I)I"⟩
abbrev cX7_settle : ByteArray := prog_9_method_60_code
def yX7_settle : MethodName := ⟨RX7, "settle", "(I)V"⟩
abbrev cX7_signHere : ByteArray := prog_9_method_61_code
def yX7_signHere : MethodName := ⟨RX7, "signHere", "()I"⟩
abbrev cX7_takesPart : ByteArray := prog_9_method_62_code
def yX7_takesPart : MethodName := ⟨RX7, "takesPart", "()Z"⟩
abbrev cX7_takesE : ByteArray := prog_9_method_63_code
def yX7_takesE : MethodName := ⟨RX7, "takesE", "()Z"⟩
abbrev cX7_notsOpen : ByteArray := prog_9_method_64_code
def yX7_notsOpen : MethodName := ⟨RX7, "notsOpen", "()I"⟩
abbrev cX7_text : ByteArray := prog_9_method_65_code
def yX7_text : MethodName := ⟨RX7, "text", "()I"⟩
abbrev cX7_textTold : ByteArray := prog_9_method_66_code
def yX7_textTold : MethodName := ⟨RX7, "textTold", "(II)I"⟩
abbrev cX7_counts : ByteArray := prog_9_method_67_code
def yX7_counts : MethodName := ⟨RX7, "counts", "(I)I"⟩
abbrev cX7_why : ByteArray := prog_9_method_68_code
def yX7_why : MethodName := ⟨RX7, "why", "(I)I"⟩
abbrev cX7_two : ByteArray := prog_9_method_69_code
def yX7_two : MethodName := ⟨RX7, "two", "(III)I"⟩
abbrev cX7_worksOut : ByteArray := prog_9_method_70_code
def yX7_worksOut : MethodName := ⟨RX7, "worksOut", "(I)I"⟩
abbrev cX7_isSheet : ByteArray := prog_9_method_71_code
def yX7_isSheet : MethodName := ⟨RX7, "isSheet", "(I)Z"⟩
abbrev cX7_isSlot : ByteArray := prog_9_method_72_code
def yX7_isSlot : MethodName := ⟨RX7, "isSlot", "(I)Z"⟩
abbrev cX7_sheet : ByteArray := prog_9_method_73_code
def yX7_sheet : MethodName := ⟨RX7, "sheet", "(III)I"⟩
abbrev cX7_mark : ByteArray := prog_9_method_74_code
def yX7_mark : MethodName := ⟨RX7, "mark", "(III)I"⟩
abbrev cX7_pour : ByteArray := prog_9_method_75_code
def yX7_pour : MethodName := ⟨RX7, "pour", "(I)I"⟩
abbrev cX7_reads : ByteArray := prog_9_method_76_code
def yX7_reads : MethodName := ⟨RX7, "reads", "(I)I"⟩
abbrev cX7_copy : ByteArray := prog_9_method_77_code
def yX7_copy : MethodName := ⟨RX7, "copy", "(IIIII)I"⟩
abbrev cX7_lay : ByteArray := prog_9_method_78_code
def yX7_lay : MethodName := ⟨RX7, "lay", "(III)I"⟩
abbrev cX7_ask : ByteArray := prog_9_method_79_code
def yX7_ask : MethodName := ⟨RX7, "ask", "(II)I"⟩
abbrev cX7_item : ByteArray := prog_9_method_80_code
def yX7_item : MethodName := ⟨RX7, "item", "(II)I"⟩
abbrev cX7_rest : ByteArray := prog_9_method_81_code
def yX7_rest : MethodName := ⟨RX7, "rest", "(II)I"⟩
abbrev cX7_tell : ByteArray := prog_9_method_82_code
def yX7_tell : MethodName := ⟨RX7, "tell", "(I)I"⟩
abbrev cX7_check : ByteArray := prog_9_method_83_code
def yX7_check : MethodName := ⟨RX7, "check", "(I)I"⟩
abbrev cX7_keep : ByteArray := prog_9_method_84_code
def yX7_keep : MethodName := ⟨RX7, "keep", "()I"⟩
abbrev cX7_back : ByteArray := prog_9_method_85_code
def yX7_back : MethodName := ⟨RX7, "back", "()I"⟩
abbrev cX7_count : ByteArray := prog_9_method_86_code
def yX7_count : MethodName := ⟨RX7, "count", "(I)I"⟩
def RJ11 : String := "java/lang/Character"
def TJ11 : u_T := fun k => match k with
  | _ => ("", "", "", false)
def tyJ11 : Nat → FieldType := fun k => match k with
  | _ => .int
abbrev wsJ110 : List Cond := u_ws RJ11 TJ11 0
theorem nmJ11 : ∀ a, a < 0 → ∀ b, b < 0 → a ≠ b → (TJ11 a).2.1 ≠ (TJ11 b).2.1 := by decide +kernel
theorem tyJ11_ok : ∀ k, k < 0 → parseFieldDescriptor (TJ11 k).2.2.1 = some (tyJ11 k) := by decide +kernel
abbrev cJ11_isValidCodePoint_9a6ad : ByteArray := prog_10_method_11_code
def yJ11_isValidCodePoint_9a6ad : MethodName := ⟨RJ11, "isValidCodePoint", "(I)Z"⟩
abbrev cJ11_highSurrogate_5068e : ByteArray := prog_10_method_28_code
def yJ11_highSurrogate_5068e : MethodName := ⟨RJ11, "highSurrogate", "(I)C"⟩
abbrev cJ11_lowSurrogate_5068e : ByteArray := prog_10_method_29_code
def yJ11_lowSurrogate_5068e : MethodName := ⟨RJ11, "lowSurrogate", "(I)C"⟩
def RJ9 : String := "java/lang/Math"
def TJ9 : u_T := fun k => match k with
  | _ => ("", "", "", false)
def tyJ9 : Nat → FieldType := fun k => match k with
  | _ => .int
abbrev wsJ90 : List Cond := u_ws RJ9 TJ9 0
theorem nmJ9 : ∀ a, a < 0 → ∀ b, b < 0 → a ≠ b → (TJ9 a).2.1 ≠ (TJ9 b).2.1 := by decide +kernel
theorem tyJ9_ok : ∀ k, k < 0 → parseFieldDescriptor (TJ9 k).2.2.1 = some (tyJ9 k) := by decide +kernel
abbrev cJ9_abs_0f7a4 : ByteArray := prog_11_method_59_code
def yJ9_abs_0f7a4 : MethodName := ⟨RJ9, "abs", "(I)I"⟩
abbrev cJ9_max_7cf53 : ByteArray := prog_11_method_65_code
def yJ9_max_7cf53 : MethodName := ⟨RJ9, "max", "(II)I"⟩
abbrev cJ9_min_7cf53 : ByteArray := prog_11_method_69_code
def yJ9_min_7cf53 : MethodName := ⟨RJ9, "min", "(II)I"⟩
def RJ0 : String := "java/lang/String"
def TJ0 : u_T := fun k => match k with
  | _ => ("", "", "", false)
def tyJ0 : Nat → FieldType := fun k => match k with
  | _ => .int
abbrev wsJ00 : List Cond := u_ws RJ0 TJ0 0
theorem nmJ0 : ∀ a, a < 0 → ∀ b, b < 0 → a ≠ b → (TJ0 a).2.1 ≠ (TJ0 b).2.1 := by decide +kernel
theorem tyJ0_ok : ∀ k, k < 0 → parseFieldDescriptor (TJ0 k).2.2.1 = some (tyJ0 k) := by decide +kernel
abbrev cJ0_length_8abf5 : ByteArray := prog_12_method_54_code
def yJ0_length_8abf5 : MethodName := ⟨RJ0, "length", "()I"⟩
abbrev cJ0_charAt_5068e : ByteArray := prog_12_method_56_code
def yJ0_charAt_5068e : MethodName := ⟨RJ0, "charAt", "(I)C"⟩
abbrev cJ0_indexOf_0f7a4 : ByteArray := prog_12_method_79_code
def yJ0_indexOf_0f7a4 : MethodName := ⟨RJ0, "indexOf", "(I)I"⟩
abbrev cJ0_indexOf_7cf53 : ByteArray := prog_12_method_80_code
def yJ0_indexOf_7cf53 : MethodName := ⟨RJ0, "indexOf", "(II)I"⟩
abbrev cJ0_coder_7d493 : ByteArray := prog_12_method_152_code
def yJ0_coder_7d493 : MethodName := ⟨RJ0, "coder", "()B"⟩
abbrev cJ0_isLatin1_aae02 : ByteArray := prog_12_method_154_code
def yJ0_isLatin1_aae02 : MethodName := ⟨RJ0, "isLatin1", "()Z"⟩
abbrev cJ0_checkIndex_df160 : ByteArray := prog_12_method_155_code
def yJ0_checkIndex_df160 : MethodName := ⟨RJ0, "checkIndex", "(II)V"⟩
abbrev cJ0_checkBoundsBeginEnd_23922 : ByteArray := prog_12_method_158_code
def yJ0_checkBoundsBeginEnd_23922 : MethodName := ⟨RJ0, "checkBoundsBeginEnd", "(III)V"⟩
def RJ1 : String := "java/lang/StringLatin1"
def TJ1 : u_T := fun k => match k with
  | _ => ("", "", "", false)
def tyJ1 : Nat → FieldType := fun k => match k with
  | _ => .int
abbrev wsJ10 : List Cond := u_ws RJ1 TJ1 0
theorem nmJ1 : ∀ a, a < 0 → ∀ b, b < 0 → a ≠ b → (TJ1 a).2.1 ≠ (TJ1 b).2.1 := by decide +kernel
theorem tyJ1_ok : ∀ k, k < 0 → parseFieldDescriptor (TJ1 k).2.2.1 = some (tyJ1 k) := by decide +kernel
abbrev cJ1_charAt_3b067 : ByteArray := prog_13_method_2_code
def yJ1_charAt_3b067 : MethodName := ⟨RJ1, "charAt", "([BI)C"⟩
abbrev cJ1_canEncode_9a6ad : ByteArray := prog_13_method_4_code
def yJ1_canEncode_9a6ad : MethodName := ⟨RJ1, "canEncode", "(I)Z"⟩
abbrev cJ1_indexOf_4cfef : ByteArray := prog_13_method_22_code
def yJ1_indexOf_4cfef : MethodName := ⟨RJ1, "indexOf", "([BIII)I"⟩
abbrev cJ1_indexOfChar_4cfef : ByteArray := prog_13_method_23_code
def yJ1_indexOfChar_4cfef : MethodName := ⟨RJ1, "indexOfChar", "([BIII)I"⟩
def RJ2 : String := "java/lang/StringUTF16"
def TJ2 : u_T := fun k => match k with
  | _ => ("", "", "", false)
def tyJ2 : Nat → FieldType := fun k => match k with
  | _ => .int
abbrev wsJ20 : List Cond := u_ws RJ2 TJ2 0
theorem nmJ2 : ∀ a, a < 0 → ∀ b, b < 0 → a ≠ b → (TJ2 a).2.1 ≠ (TJ2 b).2.1 := by decide +kernel
theorem tyJ2_ok : ∀ k, k < 0 → parseFieldDescriptor (TJ2 k).2.2.1 = some (tyJ2 k) := by decide +kernel
abbrev cJ2_getChar_3b067 : ByteArray := prog_14_method_5_code
def yJ2_getChar_3b067 : MethodName := ⟨RJ2, "getChar", "([BI)C"⟩
abbrev cJ2_length_9d52b : ByteArray := prog_14_method_6_code
def yJ2_length_9d52b : MethodName := ⟨RJ2, "length", "([B)I"⟩
abbrev cJ2_indexOf_4cfef : ByteArray := prog_14_method_40_code
def yJ2_indexOf_4cfef : MethodName := ⟨RJ2, "indexOf", "([BIII)I"⟩
abbrev cJ2_indexOfChar_4cfef : ByteArray := prog_14_method_47_code
def yJ2_indexOfChar_4cfef : MethodName := ⟨RJ2, "indexOfChar", "([BIII)I"⟩
abbrev cJ2_indexOfCharUnsafe_4cfef : ByteArray := prog_14_method_48_code
def yJ2_indexOfCharUnsafe_4cfef : MethodName := ⟨RJ2, "indexOfCharUnsafe", "([BIII)I"⟩
abbrev cJ2_indexOfSupplementary_4cfef : ByteArray := prog_14_method_49_code
def yJ2_indexOfSupplementary_4cfef : MethodName := ⟨RJ2, "indexOfSupplementary", "([BIII)I"⟩
abbrev cJ2_charAt_3b067 : ByteArray := prog_14_method_83_code
def yJ2_charAt_3b067 : MethodName := ⟨RJ2, "charAt", "([BI)C"⟩
abbrev cJ2_checkIndex_2214a : ByteArray := prog_14_method_91_code
def yJ2_checkIndex_2214a : MethodName := ⟨RJ2, "checkIndex", "(I[B)V"⟩
abbrev cJ2_checkBoundsBeginEnd_d044e : ByteArray := prog_14_method_93_code
def yJ2_checkBoundsBeginEnd_d044e : MethodName := ⟨RJ2, "checkBoundsBeginEnd", "(II[B)V"⟩
def RJ10 : String := "java/lang/System"
def TJ10 : u_T := fun k => match k with
  | _ => ("", "", "", false)
def tyJ10 : Nat → FieldType := fun k => match k with
  | _ => .int
abbrev wsJ100 : List Cond := u_ws RJ10 TJ10 0
theorem nmJ10 : ∀ a, a < 0 → ∀ b, b < 0 → a ≠ b → (TJ10 a).2.1 ≠ (TJ10 b).2.1 := by decide +kernel
theorem tyJ10_ok : ∀ k, k < 0 → parseFieldDescriptor (TJ10 k).2.2.1 = some (tyJ10 k) := by decide +kernel
def RJ3 : String := "jdk/internal/util/Preconditions"
def TJ3 : u_T := fun k => match k with
  | _ => ("", "", "", false)
def tyJ3 : Nat → FieldType := fun k => match k with
  | _ => .int
abbrev wsJ30 : List Cond := u_ws RJ3 TJ3 0
theorem nmJ3 : ∀ a, a < 0 → ∀ b, b < 0 → a ≠ b → (TJ3 a).2.1 ≠ (TJ3 b).2.1 := by decide +kernel
theorem tyJ3_ok : ∀ k, k < 0 → parseFieldDescriptor (TJ3 k).2.2.1 = some (tyJ3 k) := by decide +kernel
abbrev cJ3_checkIndex_8e157 : ByteArray := prog_16_method_11_code
def yJ3_checkIndex_8e157 : MethodName := ⟨RJ3, "checkIndex", "(IILjava/util/function/BiFunction;)I"⟩
abbrev cJ3_checkFromToIndex_8c36e : ByteArray := prog_16_method_12_code
def yJ3_checkFromToIndex_8c36e : MethodName := ⟨RJ3, "checkFromToIndex", "(IIILjava/util/function/BiFunction;)I"⟩
def RL : String := "RoofSnowLaw"
abbrev cL_law : ByteArray := code
def yL_law : MethodName := ⟨RL, "law", "([I)Z"⟩
end
section
/-! ===== values, memory, shapes: what a state of the system is ===== -/
abbrev vwCl : List vw_C := [(RX0, TX0, 5), (RX1, TX1, 9), (RX2, TX2, 6), (RX3, TX3, 3), (RX4, TX4, 4), (RX5, TX5, 16), (RX6, TX6, 13), (RX7, TX7, 33)]
abbrev AV : Type := Int32 ⊕ ((Nat × Nat) ⊕ (Int64 ⊕ Unit))
abbrev Mem : Type := Nat → Nat → Nat → Int32
abbrev aI (x : Int32) : AV := .inl x
abbrev aR (r i : Nat) : AV := .inr (.inl (r, i))
abbrev aL (x : Int64) : AV := .inr (.inr (.inl x))
abbrev aN : AV := .inr (.inr (.inr ()))
def cv (ad : Nat → Nat → Nat) : AV → Value
  | .inl x => .int x
  | .inr (.inl q) => .ref (ad q.1 q.2)
  | .inr (.inr (.inl x)) => .long x
  | .inr (.inr (.inr _)) => .null
def isW : AV → Bool
  | .inr (.inr (.inl _)) => true
  | _ => false
theorem cv_cat (ad : Nat → Nat → Nat) (v : AV) : ((cv ad v).category == 2) = isW v := by
  rcases v with x | ⟨q⟩ | x | x <;> rfl
def ma (V : Mem) (r i : Nat) (f : Nat → Int32) : Mem := fun r' i' => if r' = r ∧ i' = i then f else V r' i'
def mu (V : Mem) (r i k : Nat) (x : Int32) : Mem := ma V r i (upd (V r i) k x)
theorem ma_same (V : Mem) (r i : Nat) (f : Nat → Int32) : ma V r i f r i = f := if_pos ⟨rfl, rfl⟩
theorem ma_ne {V : Mem} {r i r' i' : Nat} {f : Nat → Int32} (h : ¬ (r' = r ∧ i' = i)) : ma V r i f r' i' = V r' i' := if_neg h
abbrev Shp : Type := (Nat × List (Option (Nat × (Nat → Nat)))) ⊕ (Nat × FieldType × Option (Nat × (Nat → Nat → Nat)))
def sh : Nat → Shp := fun r => match r with
  | 0 => .inl (6, [some (1, fun _ => 0), some (2, fun _ => 0), some (2, fun _ => 1), some (2, fun _ => 2), none, some (17, fun _ => 0), none, some (6, fun _ => 0), some (19, fun _ => 0), some (20, fun _ => 0), some (21, fun _ => 0), none, some (22, fun _ => 0)])
  | 1 => .inl (0, [some (7, fun _ => 0), some (8, fun _ => 0), some (9, fun _ => 0), some (10, fun _ => 0), some (12, fun _ => 0)])
  | 2 => .inl (5, [some (1, fun _ => 0), some (13, fun i => i), some (14, fun i => i), some (15, fun i => i), some (16, fun i => i), none, none, none, none, none, none, none, none, none, none, none])
  | 3 => .inl (2, [none, none, none, none, none, none])
  | 4 => .inl (3, [none, none, some (23, fun i => i)])
  | 5 => .inl (4, [none, none, some (3, fun i => 24 + i), some (4, fun i => 4 + i)])
  | 6 => .inl (1, [some (17, fun _ => 0), some (18, fun _ => 0), none, none, none, none, none, none, none])
  | 7 => .inr (14, .int, none)
  | 8 => .inr (14, .int, none)
  | 9 => .inr (14, .int, none)
  | 10 => .inr (14, (.array .int), some (11, fun _ j => j))
  | 11 => .inr (96, .int, none)
  | 12 => .inr (96, .int, none)
  | 13 => .inr (8, (.object "RoofSnow$Roof"), some (3, fun i j => 8 * i + j))
  | 14 => .inr (24, .int, none)
  | 15 => .inr (24, .int, none)
  | 16 => .inr (3, .int, none)
  | 17 => .inr (96, .int, none)
  | 18 => .inr (96, .int, none)
  | 19 => .inr (4, (.object "RoofSnow$Sheet"), some (4, fun _ j => j))
  | 20 => .inr (5, (.object "RoofSnow$Slot"), some (5, fun _ j => j))
  | 21 => .inr (60, .int, none)
  | 22 => .inr (8, .int, none)
  | 23 => .inr (24, .int, none)
  | 24 => .inl (7, [some (25, fun _ => 0), some (26, fun _ => 0), some (27, fun _ => 0), none, some (28, fun _ => 0), some (29, fun _ => 0), none, none, none, none, none, none, none, some (30, fun _ => 0), some (31, fun _ => 0), some (32, fun _ => 0), none, none, some (33, fun _ => 0), none, some (34, fun _ => 0), some (35, fun _ => 0), some (36, fun _ => 0), some (37, fun _ => 0), some (38, fun _ => 0), some (39, fun _ => 0), some (40, fun _ => 0), some (41, fun _ => 0), some (42, fun _ => 0), some (43, fun _ => 0), some (44, fun _ => 0), some (45, fun _ => 0), none])
  | 25 => .inr (1479, .int, none)
  | 26 => .inr (1479, .int, none)
  | 27 => .inr (1479, .int, none)
  | 28 => .inr (107, .int, none)
  | 29 => .inr (96, .int, none)
  | 30 => .inr (13, .char, none)
  | 31 => .inr (4, .int, none)
  | 32 => .inr (96, .int, none)
  | 33 => .inr (96, .int, none)
  | 34 => .inr (10, .boolean, none)
  | 35 => .inr (96, .int, none)
  | 36 => .inr (4, .int, none)
  | 37 => .inr (4, .int, none)
  | 38 => .inr (4, .int, none)
  | 39 => .inr (96, .int, none)
  | 40 => .inr (5, .int, none)
  | 41 => .inr (5, .int, none)
  | 42 => .inr (5, .int, none)
  | 43 => .inr (120, .int, none)
  | 44 => .inr (24, .int, none)
  | 45 => .inr (60, .int, none)
  | _ => .inr (0, .int, none)
def cnt : Nat → Nat := fun r => match r with
  | 2 => 3
  | 3 => 29
  | 4 => 9
  | 5 => 5
  | 11 => 14
  | 13 => 3
  | 14 => 3
  | 15 => 3
  | 16 => 3
  | 23 => 9
  | _ => 1
def fv1 (ad : Nat → Nat → Nat) (f : Nat → Int32) (i k : Nat) : Option (Nat × (Nat → Nat)) → Value
  | none => Value.int (f k)
  | some q => Value.ref (ad q.1 (q.2 i))
def fvs (ad : Nat → Nat → Nat) (f : Nat → Int32) (i : Nat) (ks : List (Option (Nat × (Nat → Nat)))) : List Value := ks.mapIdx (fun k o => fv1 ad f i k o)
def cE (ad : Nat → Nat → Nat) (dA : Nat → Nat → ClassId) (f : Nat → Int32) (r i : Nat) : va_E := match sh r with
  | .inl q => .inr (q.1, fvs ad f i q.2)
  | .inr (n, _, none) => .inl (dA r i, n, .inl f)
  | .inr (n, _, some q) => .inl (dA r i, n, .inr (.inr (.inr (.inr (fun j => some (ad q.1 (q.2 i j)))))))
abbrev Uv : Type := List (Nat × Nat)
def wsU (ad : Nat → Nat → Nat) (dA : Nat → Nat → ClassId) (U : Uv) (V : Mem) : va_W := U.map (fun q => (ad q.1 q.2, cE ad dA (V q.1 q.2) q.1 q.2))
def tyU (dA : Nat → Nat → ClassId) (U : Uv) : List (ClassId × FieldType) := U.filterMap (fun q => match sh q.1 with | .inl _ => none | .inr s => some (dA q.1 q.2, s.2.1))
def AU (ad : Nat → Nat → Nat) (U : Uv) : Nat → Prop := fun q => ∃ x ∈ U, q = ad x.1 x.2
def Inj (ad : Nat → Nat → Nat) (U : Uv) : Prop := ∀ (i j : Nat) (x y : Nat × Nat), U[i]? = some x → U[j]? = some y → ad x.1 x.2 = ad y.1 y.2 → i = j
theorem ws_at {ad : Nat → Nat → Nat} {dA : Nat → Nat → ClassId} {U : Uv} (V : Mem) {r i : Nat} (h : (r, i) ∈ U) : ∃ p : Nat, U[p]? = some (r, i) ∧ (wsU ad dA U V)[p]? = some (ad r i, cE ad dA (V r i) r i) := by
  obtain ⟨p, hp⟩ := List.getElem?_of_mem h
  exact ⟨p, hp, by rw [wsU, List.getElem?_map, hp]; rfl⟩
theorem ty_at {dA : Nat → Nat → ClassId} {U : Uv} {r i n : Nat} {ty : FieldType} {o : Option (Nat × (Nat → Nat → Nat))} (h : (r, i) ∈ U) (hs : sh r = .inr (n, ty, o)) : ∃ t : Nat, (tyU dA U)[t]? = some (dA r i, ty) := by
  apply List.getElem?_of_mem
  refine List.mem_filterMap.mpr ⟨(r, i), h, ?_⟩
  simp only [hs]
theorem ws_D {ad : Nat → Nat → Nat} {dA : Nat → Nat → ClassId} {U : Uv} (V : Mem) (h : Inj ad U) : va_D (AU ad U) (wsU ad dA U V) := by
  have key : ∀ (k : Nat) (q : Nat × va_E), (wsU ad dA U V)[k]? = some q → ∃ x, U[k]? = some x ∧ q.1 = ad x.1 x.2 := by
    intro k q hk
    rw [wsU, List.getElem?_map] at hk
    cases hu : U[k]? with
    | none => rw [hu] at hk; cases hk
    | some x => rw [hu] at hk; cases hk; exact ⟨x, rfl, rfl⟩
  refine ⟨fun i j p q hi hj hpq => ?_, fun k q hk => ?_⟩
  · obtain ⟨x, h1, h2⟩ := key i p hi
    obtain ⟨y, h3, h4⟩ := key j q hj
    exact h i j x y h1 h3 (by rw [← h2, ← h4]; exact hpq)
  · obtain ⟨x, h1, h2⟩ := key k q hk
    exact ⟨x, List.mem_of_getElem? h1, h2⟩
theorem ws_set {ad : Nat → Nat → Nat} {dA : Nat → Nat → ClassId} {U : Uv} {V : Mem} {p r i : Nat} {f : Nat → Int32} {e : va_E} (hI : Inj ad U) (hp : U[p]? = some (r, i)) (he : cE ad dA f r i = e) : (wsU ad dA U V).set p (ad r i, e) = wsU ad dA U (ma V r i f) := by
  apply List.ext_getElem?
  intro k
  by_cases hk : k = p
  · subst hk
    have hl : k < (wsU ad dA U V).length := by rw [wsU, List.length_map]; exact (List.getElem?_eq_some_iff.mp hp).1
    rw [List.getElem?_set_self hl, wsU, List.getElem?_map, hp]
    show some (ad r i, e) = some (ad r i, cE ad dA (ma V r i f r i) r i)
    rw [ma_same, he]
  · rw [List.getElem?_set_ne (Ne.symm hk), wsU, wsU, List.getElem?_map, List.getElem?_map]
    cases hu : U[k]? with
    | none => rfl
    | some x =>
      have hne : ¬ (x.1 = r ∧ x.2 = i) := fun h => hk (hI k p x (r, i) hu hp (by rw [h.1, h.2]))
      show some (ad x.1 x.2, cE ad dA (V x.1 x.2) x.1 x.2) = some (ad x.1 x.2, cE ad dA (ma V r i f x.1 x.2) x.1 x.2)
      rw [ma_ne hne]
theorem fvs_get {ad : Nat → Nat → Nat} {f : Nat → Int32} {i k : Nat} {ks : List (Option (Nat × (Nat → Nat)))} {o : Option (Nat × (Nat → Nat))} (h : ks[k]? = some o) : (fvs ad f i ks)[k]? = some (fv1 ad f i k o) := by
  rw [fvs, List.getElem?_mapIdx, h]; rfl
theorem fvs_len {ad : Nat → Nat → Nat} {f : Nat → Int32} {i : Nat} {ks : List (Option (Nat × (Nat → Nat)))} : (fvs ad f i ks).length = ks.length := by
  rw [fvs, List.length_mapIdx]
theorem fvs_set {ad : Nat → Nat → Nat} {f : Nat → Int32} {i k : Nat} {x : Int32} {ks : List (Option (Nat × (Nat → Nat)))} (h : ks[k]? = some none) : fvs ad (upd f k x) i ks = (fvs ad f i ks).set k (.int x) := by
  apply List.ext_getElem?
  intro j
  by_cases hj : j = k
  · subst hj
    have hl : j < (fvs ad f i ks).length := by rw [fvs_len]; exact (List.getElem?_eq_some_iff.mp h).1
    rw [List.getElem?_set_self hl, fvs_get h]
    simp [upd, fv1]
  · rw [List.getElem?_set_ne (Ne.symm hj), fvs, fvs, List.getElem?_mapIdx, List.getElem?_mapIdx]
    cases hk : ks[j]? with
    | none => rfl
    | some o =>
      cases o with
      | none => simp [upd, hj, fv1]
      | some q => rfl
/-! ===== what is there before the law begins: the table of kinds, the six words, two statics of the library ===== -/
def abF : Nat → Value := fun j => match j with | 0 => .int (-1) | 1 => .int 0 | 2 => .int 0 | 3 => .int 1 | 4 => .int 2 | _ => .int 0
def nStr : Nat := 6
def lenS : List Nat := [4, 5, 4, 3, 2, 2]
def bytS : List (List Int32) := [[109, 101, 108, 116], [111, 119, 110, 101, 114], [102, 105, 110, 101], [119, 115, 122], [104, 119], [119, 115]]
def Fz (ad : Nat → Nat → Nat) (A : Nat → Prop) (T : State) (H : Heap) : Prop :=
  va_Z "RoofSnow" "ABOVE" "[I" (.ref (ad 60 0)) A T H ∧ va_T .int (ad 60 0) 6 abF A T H ∧ vk_S nStr lenS bytS (ad 61) (ad 62) A T H ∧
  va_Z "java/lang/String" "COMPACT_STRINGS" "Z" (.int 1) A T H ∧
  (va_Z "jdk/internal/util/Preconditions" "SIOOBE_FORMATTER" "Ljava/util/function/BiFunction;" .null A T H ∨ va_Z "jdk/internal/util/Preconditions" "SIOOBE_FORMATTER" "Ljava/util/function/BiFunction;" (.ref (ad 63 0)) A T H) ∧
  vk_R RX1 100 "melt" (ad 61 0) T ∧ vk_R RX1 102 "owner" (ad 61 1) T ∧ vk_R RX1 104 "fine" (ad 61 2) T ∧ vk_R RX1 106 "wsz" (ad 61 3) T ∧ vk_R RX1 108 "hw" (ad 61 4) T ∧ vk_R RX1 110 "ws" (ad 61 5) T
theorem Fz.warm {ad : Nat → Nat → Nat} {A : Nat → Prop} {s T : State} {H : Heap} (hW : s.WarmedH T.vm) (h : Fz ad A s H) : Fz ad A T H := by
  obtain ⟨h1, h2, h3, h4, h5, r0, r1, r2, r3, r4, r5⟩ := h
  exact ⟨h1.moved hW.alike, h2.moved hW.alike, h3.moved hW.alike, h4.moved hW.alike, h5.elim (fun z => Or.inl (z.moved hW.alike)) (fun z => Or.inr (z.moved hW.alike)), r0.warm hW, r1.warm hW, r2.warm hW, r3.warm hW, r4.warm hW, r5.warm hW⟩
theorem Fz.same {ad : Nat → Nat → Nat} {A : Nat → Prop} {s T : State} {H : Heap} (hv : T.vm = s.vm) (h : Fz ad A s H) : Fz ad A T H := by
  have ha : s.vm.Alike T.vm := by rw [hv]; exact Vm.Alike.refl _
  obtain ⟨h1, h2, h3, h4, h5, r0, r1, r2, r3, r4, r5⟩ := h
  exact ⟨h1.moved ha, h2.moved ha, h3.moved ha, h4.moved ha, h5.elim (fun z => Or.inl (z.moved ha)) (fun z => Or.inr (z.moved ha)), r0.same hv, r1.same hv, r2.same hv, r3.same hv, r4.same hv, r5.same hv⟩
theorem Fz.kept {ad : Nat → Nat → Nat} {A : Nat → Prop} {s : State} {H H1 : Heap} (h : Fz ad A s H) (hq : ∀ a : Nat, a < H.size → ¬ A a → H1[a]? = H[a]?) : Fz ad A s H1 := by
  obtain ⟨h1, h2, h3, h4, h5, hr⟩ := h
  exact ⟨h1.kept hq, h2.kept hq, h3.kept hq, h4.kept hq, h5.elim (fun z => Or.inl (z.kept hq)) (fun z => Or.inr (z.kept hq)), hr⟩
theorem Fz.narrow {ad : Nat → Nat → Nat} {A B : Nat → Prop} {s : State} {H : Heap} (h : Fz ad A s H) (hAB : ∀ q, B q → A q) : Fz ad B s H := by
  obtain ⟨h1, h2, h3, h4, h5, hr⟩ := h
  exact ⟨h1.narrow hAB, h2.narrow hAB, h3.narrow hAB, h4.narrow hAB, h5.elim (fun z => Or.inl (z.narrow hAB)) (fun z => Or.inr (z.narrow hAB)), hr⟩
/-! ===== contracts over memories, and the walk of a body ===== -/
def WSU : List Cond := lw_tbl.filter goodWord
theorem wsu_of {w : Cond} (i : Nat) (h : lw_tbl[i]? = some w) (hg : goodWord w = true) : w ∈ WSU := List.mem_filter.mpr ⟨List.mem_of_getElem? h, hg⟩
theorem wsu_good {ws : List Cond} (h : ∀ w ∈ ws, w ∈ WSU) : GoodIn WSU ws := fun w hw => ⟨h w hw, good_of_word (List.mem_filter.mp (h w hw)).2⟩
abbrev MI : Type := MethodName × ByteArray × Nat × Option FieldType
def rmD (d : Nat) : Room := { frames := d, cells := 0, slots := 0, locals := 64 * d }
def PB (ad : Nat → Nat → Nat) (D : va_G) (dA : Nat → Nat → ClassId) (U : Uv) (V : Mem) (T : State) : Prop :=
  va_P D vwCl (wsU ad dA U V) T.heap ∧ va_K D vwCl (tyU dA U) T ∧ Inj ad U ∧ Fz ad (AU ad U) T T.heap
def QR (ad : Nat → Nat → Nat) (D : va_G) (dA : Nat → Nat → ClassId) (U : Uv) (P : Option AV → Mem → Prop) : Array Value → State → Outcome → State → Prop := fun _ st oc t =>
  (∃ (v : Option AV) (V' : Mem), oc = .returned (v.map (cv ad)) ∧ P v V' ∧ PB ad D dA U V' t) ∧ va_F (AU ad U) st t
def wsM (M : MI) : List Cond := Cond.code M.1 M.2.1 M.2.2.1 M.2.2.2 :: WSU
def Cl (U : Uv) (d : Nat) (M : MI) (as : List AV) (V : Mem) (P : Option AV → Mem → Prop) : Prop :=
  ∀ (l : Launch) (ad : Nat → Nat → Nat) (D : va_G) (dA : Nat → Nat → ClassId), Met l M.1 (wsM M) (rmD d) (va_Pc (as.map (cv ad)) (PB ad D dA U V)) (QR ad D dA U P) 0 0 (AU ad U)
def Ctx (p : Program) (s : State) (m : MethodId) (args : Array Value) (c : Code) (ad : Nat → Nat → Nat) (D : va_G) (dA : Nat → Nat → ClassId) (U : Uv) (A : Nat → Prop) (cc : ByteArray) (nL : Nat) (own : String) : Prop :=
  p.tables.exec = Jvm.exec ∧ c.code = cc ∧ c.maxLocals = nL ∧ s.vm.findClass own = some m.cls ∧ (∀ w ∈ WSU, w.before args s = true) ∧ va_K D vwCl (tyU dA U) s ∧ Inj ad U ∧ (∀ q, AU ad U q → A q) ∧ Fz ad A s s.heap
abbrev KT : Type := Program → Launch → Env → Room → State → MethodId → Array Value → List Frame → Method → Code → (Nat → Nat → Nat) → va_G → (Nat → Nat → ClassId) → (Nat → Prop) → Nat → Nat → (State → Prop) → Prop
abbrev cvl (ad : Nat → Nat → Nat) (al : List (Nat × AV)) : List (Nat × Value) := al.map (fun q => (q.1, cv ad q.2))
def Gq (Φ : KT) (U : Uv) (cc : ByteArray) (nL : Nat) (own : String) (pc : Nat) (al : List (Nat × AV)) (st : List AV) (V : Mem) : Prop :=
  ∀ (p : Program) (l : Launch) (e : Env) (R : Room) (s : State) (m : MethodId) (args : Array Value) (below : List Frame) (meth : Method) (c : Code) (ad : Nat → Nat → Nat) (D : va_G) (dA : Nat → Nat → ClassId) (A : Nat → Prop) (cells slots : Nat) (Qf : State → Prop),
    Φ p l e R s m args below meth c ad D dA A cells slots Qf → Ctx p s m args c ad D dA U A cc nL own →
    ∀ (H : Heap) (locs : List Loc) (ls : Array Slot), va_P D vwCl (wsU ad dA U V) H → va_S A s.heap H locs → lv_has ls nL (cvl ad al) →
      W p l e R s m args below meth c H locs cells slots Qf (F0 m pc ls (st.map (cv ad)))
/-- the context of a method's body -/
def Kp (d : Nat) (M : MI) (U : Uv) (P : Option AV → Mem → Prop) : KT := fun p l e R s m args below meth c ad D dA A cells slots Qf =>
  R = rmD d ∧ A = AU ad U ∧ cells = 0 ∧ slots = 0 ∧ Qf = MQ below (QR ad D dA U P) args s 0 0 (AU ad U) ∧ meth.sig.returnType = M.2.2.2 ∧ meth.locks = false
theorem cl_of {U : Uv} {d : Nat} {M : MI} {as : List AV} {V : Mem} {P : Option AV → Mem → Prop} (al : List (Nat × AV)) (hy : plainName M.1.cls = true) (hn : ∀ ad, (lg_sl (as.map (cv ad))).length ≤ M.2.2.1) (hal : ∀ ad, lv_args 0 (as.map (cv ad)) = cvl ad al)
    (h : Gq (Kp d M U P) U M.2.1 M.2.2.1 M.1.cls 0 al [] V) : Cl U d M as V P := by
  intro l ad D dA
  refine Met.ofW (cc := M.2.1) (maxL := M.2.2.1) (ret := M.2.2.2) hy rfl ?_
  intro p e s m args below meth c s₁ B hml hv
  obtain ⟨rfl, hP, hK, hI, hF⟩ := hv
  have hts := atoms_spec (ws := wsM M) B.pre
  have hown : s.vm.findClass M.1.cls = some m.cls := findClass_of_methodNamed B.named
  rw [lg_entry_eq]
  have hl := lv_entry (as.map (cv ad)) (hn ad)
  rw [hal ad] at hl
  exact h p l e (rmD d) s m _ below meth c ad D dA (AU ad U) 0 0 _ ⟨rfl, rfl, rfl, rfl, rfl, B.returns, B.notSynchronized⟩
    ⟨B.exec, B.bytes, hml, hown, fun w hw => hts w (List.mem_cons_of_mem _ hw), hK, hI, fun _ h => h, hF⟩ s.heap [] _ hP va_S.rf hl
/-! ===== rows: one an instruction ===== -/
def st1 (i : Nat) (v : AV) (al : List (Nat × AV)) : List (Nat × AV) := (i, v) :: al.filter (fun q => !(q.1 == i) && !(q.1 + 1 == i && isW q.2))
def st2 (i : Nat) (v : AV) (al : List (Nat × AV)) : List (Nat × AV) := (i, v) :: al.filter (fun q => !(q.1 == i) && (!(q.1 == i + 1) && !(q.1 + 1 == i && isW q.2)))
theorem st1_map (ad : Nat → Nat → Nat) (i : Nat) (v : AV) (al : List (Nat × AV)) : (i, cv ad v) :: (cvl ad al).filter (fun q => !(q.1 == i) && !(q.1 + 1 == i && q.2.category == 2)) = cvl ad (st1 i v al) := by
  unfold cvl st1
  rw [List.map_cons, List.filter_map]
  congr 1
  congr 1
  apply List.filter_congr
  intro q _
  simp only [Function.comp, cv_cat]
theorem st2_map (ad : Nat → Nat → Nat) (i : Nat) (v : AV) (al : List (Nat × AV)) : (i, cv ad v) :: (cvl ad al).filter (fun q => !(q.1 == i) && (!(q.1 == i + 1) && !(q.1 + 1 == i && q.2.category == 2))) = cvl ad (st2 i v al) := by
  unfold cvl st2
  rw [List.map_cons, List.filter_map]
  congr 1
  congr 1
  apply List.filter_congr
  intro q _
  simp only [Function.comp, cv_cat]
theorem lv_al {ad : Nat → Nat → Nat} {ls : Array Slot} {nL : Nat} {al : List (Nat × AV)} (h : lv_has ls nL (cvl ad al)) {k i : Nat} {v : AV} (hk : al[k]? = some (i, v)) : ls[i]? = some (.val (cv ad v)) :=
  lv_at h k (by rw [cvl, List.getElem?_map, hk]; rfl)
end
