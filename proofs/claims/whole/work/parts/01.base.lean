-- ===== PART A: goes FIRST, ahead of the names: the tables' words, and 'selects' of the private methods out of them =====
/-- a private method of a class that the tables say can be made, by its rows of tables_1 -/
def lw_okq (q : MethodName × Nat) : Prop := (q.1.cls ≠ "java/lang/invoke/MethodHandle" ∧ q.1.cls ≠ "java/lang/invoke/VarHandle") ∧ Cond.instantiable q.1.cls q.2 ∈ tables_1 ∧ Cond.privateMethod q.1 ∈ tables_1 ∧ Cond.instanceMethod q.1 ∈ tables_1
theorem lw_p0 : lw_okq (⟨"WhoseHare$Reader", "scan", "()V"⟩, 11) := ⟨⟨by decide +kernel, by decide +kernel⟩, List.mem_of_getElem? (i := 104) (by decide +kernel), List.mem_of_getElem? (i := 425) (by decide +kernel), List.mem_of_getElem? (i := 426) (by decide +kernel)⟩
theorem lw_p1 : lw_okq (⟨"WhoseHare$Reader", "scanWord", "()V"⟩, 11) := ⟨⟨by decide +kernel, by decide +kernel⟩, List.mem_of_getElem? (i := 104) (by decide +kernel), List.mem_of_getElem? (i := 432) (by decide +kernel), List.mem_of_getElem? (i := 433) (by decide +kernel)⟩
theorem lw_p2 : lw_okq (⟨"WhoseHare$Reader", "numberOfWord", "()I"⟩, 11) := ⟨⟨by decide +kernel, by decide +kernel⟩, List.mem_of_getElem? (i := 104) (by decide +kernel), List.mem_of_getElem? (i := 436) (by decide +kernel), List.mem_of_getElem? (i := 437) (by decide +kernel)⟩
theorem lw_p3 : lw_okq (⟨"WhoseHare$Reader", "scanNumber", "()V"⟩, 11) := ⟨⟨by decide +kernel, by decide +kernel⟩, List.mem_of_getElem? (i := 104) (by decide +kernel), List.mem_of_getElem? (i := 492) (by decide +kernel), List.mem_of_getElem? (i := 493) (by decide +kernel)⟩
theorem lw_p4 : lw_okq (⟨"WhoseHare$Reader", "expect", "(I)V"⟩, 11) := ⟨⟨by decide +kernel, by decide +kernel⟩, List.mem_of_getElem? (i := 104) (by decide +kernel), List.mem_of_getElem? (i := 499) (by decide +kernel), List.mem_of_getElem? (i := 500) (by decide +kernel)⟩
theorem lw_p5 : lw_okq (⟨"WhoseHare$Reader", "sees", "(I)Z"⟩, 11) := ⟨⟨by decide +kernel, by decide +kernel⟩, List.mem_of_getElem? (i := 104) (by decide +kernel), List.mem_of_getElem? (i := 503) (by decide +kernel), List.mem_of_getElem? (i := 504) (by decide +kernel)⟩
theorem lw_p6 : lw_okq (⟨"WhoseHare$Reader", "fail", "()V"⟩, 11) := ⟨⟨by decide +kernel, by decide +kernel⟩, List.mem_of_getElem? (i := 104) (by decide +kernel), List.mem_of_getElem? (i := 507) (by decide +kernel), List.mem_of_getElem? (i := 508) (by decide +kernel)⟩
theorem lw_p7 : lw_okq (⟨"WhoseHare$Reader", "readEither", "()V"⟩, 11) := ⟨⟨by decide +kernel, by decide +kernel⟩, List.mem_of_getElem? (i := 104) (by decide +kernel), List.mem_of_getElem? (i := 511) (by decide +kernel), List.mem_of_getElem? (i := 512) (by decide +kernel)⟩
theorem lw_p8 : lw_okq (⟨"WhoseHare$Reader", "readBoth", "()V"⟩, 11) := ⟨⟨by decide +kernel, by decide +kernel⟩, List.mem_of_getElem? (i := 104) (by decide +kernel), List.mem_of_getElem? (i := 515) (by decide +kernel), List.mem_of_getElem? (i := 516) (by decide +kernel)⟩
theorem lw_p9 : lw_okq (⟨"WhoseHare$Reader", "readNot", "()V"⟩, 11) := ⟨⟨by decide +kernel, by decide +kernel⟩, List.mem_of_getElem? (i := 104) (by decide +kernel), List.mem_of_getElem? (i := 519) (by decide +kernel), List.mem_of_getElem? (i := 520) (by decide +kernel)⟩
theorem lw_p10 : lw_okq (⟨"WhoseHare$Reader", "readCompared", "()V"⟩, 11) := ⟨⟨by decide +kernel, by decide +kernel⟩, List.mem_of_getElem? (i := 104) (by decide +kernel), List.mem_of_getElem? (i := 523) (by decide +kernel), List.mem_of_getElem? (i := 524) (by decide +kernel)⟩
theorem lw_p11 : lw_okq (⟨"WhoseHare$Reader", "readSum", "()V"⟩, 11) := ⟨⟨by decide +kernel, by decide +kernel⟩, List.mem_of_getElem? (i := 104) (by decide +kernel), List.mem_of_getElem? (i := 527) (by decide +kernel), List.mem_of_getElem? (i := 528) (by decide +kernel)⟩
theorem lw_p12 : lw_okq (⟨"WhoseHare$Reader", "readTerm", "()V"⟩, 11) := ⟨⟨by decide +kernel, by decide +kernel⟩, List.mem_of_getElem? (i := 104) (by decide +kernel), List.mem_of_getElem? (i := 531) (by decide +kernel), List.mem_of_getElem? (i := 532) (by decide +kernel)⟩
theorem lw_p13 : lw_okq (⟨"WhoseHare$Reader", "readOne", "()V"⟩, 11) := ⟨⟨by decide +kernel, by decide +kernel⟩, List.mem_of_getElem? (i := 104) (by decide +kernel), List.mem_of_getElem? (i := 535) (by decide +kernel), List.mem_of_getElem? (i := 536) (by decide +kernel)⟩
theorem lw_p14 : lw_okq (⟨"WhoseHare$Reader", "put", "(I)V"⟩, 11) := ⟨⟨by decide +kernel, by decide +kernel⟩, List.mem_of_getElem? (i := 104) (by decide +kernel), List.mem_of_getElem? (i := 539) (by decide +kernel), List.mem_of_getElem? (i := 540) (by decide +kernel)⟩
theorem lw_p15 : lw_okq (⟨"WhoseHare$Reader", "opens", "()Z"⟩, 11) := ⟨⟨by decide +kernel, by decide +kernel⟩, List.mem_of_getElem? (i := 104) (by decide +kernel), List.mem_of_getElem? (i := 543) (by decide +kernel), List.mem_of_getElem? (i := 544) (by decide +kernel)⟩
def lw_privs_1 : List (MethodName × Nat) := [(⟨"WhoseHare$Reader", "scan", "()V"⟩, 11), (⟨"WhoseHare$Reader", "scanWord", "()V"⟩, 11), (⟨"WhoseHare$Reader", "numberOfWord", "()I"⟩, 11), (⟨"WhoseHare$Reader", "scanNumber", "()V"⟩, 11), (⟨"WhoseHare$Reader", "expect", "(I)V"⟩, 11), (⟨"WhoseHare$Reader", "sees", "(I)Z"⟩, 11), (⟨"WhoseHare$Reader", "fail", "()V"⟩, 11), (⟨"WhoseHare$Reader", "readEither", "()V"⟩, 11), (⟨"WhoseHare$Reader", "readBoth", "()V"⟩, 11), (⟨"WhoseHare$Reader", "readNot", "()V"⟩, 11), (⟨"WhoseHare$Reader", "readCompared", "()V"⟩, 11), (⟨"WhoseHare$Reader", "readSum", "()V"⟩, 11), (⟨"WhoseHare$Reader", "readTerm", "()V"⟩, 11), (⟨"WhoseHare$Reader", "readOne", "()V"⟩, 11), (⟨"WhoseHare$Reader", "put", "(I)V"⟩, 11), (⟨"WhoseHare$Reader", "opens", "()Z"⟩, 11)]
theorem lw_r1 : ∀ q ∈ lw_privs_1, lw_okq q := List.forall_mem_cons.mpr ⟨lw_p0, List.forall_mem_cons.mpr ⟨lw_p1, List.forall_mem_cons.mpr ⟨lw_p2, List.forall_mem_cons.mpr ⟨lw_p3, List.forall_mem_cons.mpr ⟨lw_p4, List.forall_mem_cons.mpr ⟨lw_p5, List.forall_mem_cons.mpr ⟨lw_p6, List.forall_mem_cons.mpr ⟨lw_p7, List.forall_mem_cons.mpr ⟨lw_p8, List.forall_mem_cons.mpr ⟨lw_p9, List.forall_mem_cons.mpr ⟨lw_p10, List.forall_mem_cons.mpr ⟨lw_p11, List.forall_mem_cons.mpr ⟨lw_p12, List.forall_mem_cons.mpr ⟨lw_p13, List.forall_mem_cons.mpr ⟨lw_p14, List.forall_mem_cons.mpr ⟨lw_p15, fun _ h => absurd h List.not_mem_nil⟩⟩⟩⟩⟩⟩⟩⟩⟩⟩⟩⟩⟩⟩⟩⟩
theorem lw_p16 : lw_okq (⟨"WhoseHare", "useText", "(I)V"⟩, 10) := ⟨⟨by decide +kernel, by decide +kernel⟩, List.mem_of_getElem? (i := 20) (by decide +kernel), List.mem_of_getElem? (i := 579) (by decide +kernel), List.mem_of_getElem? (i := 580) (by decide +kernel)⟩
theorem lw_p17 : lw_okq (⟨"WhoseHare$Scene", "make", "(IIIII)V"⟩, 20) := ⟨⟨by decide +kernel, by decide +kernel⟩, List.mem_of_getElem? (i := 180) (by decide +kernel), List.mem_of_getElem? (i := 629) (by decide +kernel), List.mem_of_getElem? (i := 630) (by decide +kernel)⟩
theorem lw_p18 : lw_okq (⟨"WhoseHare$Scene", "makeForGround", "(II)V"⟩, 20) := ⟨⟨by decide +kernel, by decide +kernel⟩, List.mem_of_getElem? (i := 180) (by decide +kernel), List.mem_of_getElem? (i := 633) (by decide +kernel), List.mem_of_getElem? (i := 634) (by decide +kernel)⟩
theorem lw_p19 : lw_okq (⟨"WhoseHare$Scene", "makeOfLiving", "(IIIII)V"⟩, 20) := ⟨⟨by decide +kernel, by decide +kernel⟩, List.mem_of_getElem? (i := 180) (by decide +kernel), List.mem_of_getElem? (i := 643) (by decide +kernel), List.mem_of_getElem? (i := 644) (by decide +kernel)⟩
theorem lw_p20 : lw_okq (⟨"WhoseHare$Scene", "lose", "(III)V"⟩, 20) := ⟨⟨by decide +kernel, by decide +kernel⟩, List.mem_of_getElem? (i := 180) (by decide +kernel), List.mem_of_getElem? (i := 647) (by decide +kernel), List.mem_of_getElem? (i := 648) (by decide +kernel)⟩
theorem lw_p21 : lw_okq (⟨"WhoseHare$Scene", "cross", "(III)V"⟩, 20) := ⟨⟨by decide +kernel, by decide +kernel⟩, List.mem_of_getElem? (i := 180) (by decide +kernel), List.mem_of_getElem? (i := 651) (by decide +kernel), List.mem_of_getElem? (i := 652) (by decide +kernel)⟩
theorem lw_p22 : lw_okq (⟨"WhoseHare$Scene", "kill", "(II)V"⟩, 20) := ⟨⟨by decide +kernel, by decide +kernel⟩, List.mem_of_getElem? (i := 180) (by decide +kernel), List.mem_of_getElem? (i := 655) (by decide +kernel), List.mem_of_getElem? (i := 656) (by decide +kernel)⟩
theorem lw_p23 : lw_okq (⟨"WhoseHare$Scene", "yields", "(I)Z"⟩, 20) := ⟨⟨by decide +kernel, by decide +kernel⟩, List.mem_of_getElem? (i := 180) (by decide +kernel), List.mem_of_getElem? (i := 659) (by decide +kernel), List.mem_of_getElem? (i := 660) (by decide +kernel)⟩
theorem lw_p24 : lw_okq (⟨"WhoseHare$Scene", "letGo", "(II)V"⟩, 20) := ⟨⟨by decide +kernel, by decide +kernel⟩, List.mem_of_getElem? (i := 180) (by decide +kernel), List.mem_of_getElem? (i := 663) (by decide +kernel), List.mem_of_getElem? (i := 664) (by decide +kernel)⟩
theorem lw_p25 : lw_okq (⟨"WhoseHare$Scene", "isHoldOf", "(II)Z"⟩, 20) := ⟨⟨by decide +kernel, by decide +kernel⟩, List.mem_of_getElem? (i := 180) (by decide +kernel), List.mem_of_getElem? (i := 667) (by decide +kernel), List.mem_of_getElem? (i := 668) (by decide +kernel)⟩
theorem lw_p26 : lw_okq (⟨"WhoseHare$Scene", "give", "(III)V"⟩, 20) := ⟨⟨by decide +kernel, by decide +kernel⟩, List.mem_of_getElem? (i := 180) (by decide +kernel), List.mem_of_getElem? (i := 671) (by decide +kernel), List.mem_of_getElem? (i := 672) (by decide +kernel)⟩
theorem lw_p27 : lw_okq (⟨"WhoseHare$Scene", "isLostForLong", "(I)Z"⟩, 20) := ⟨⟨by decide +kernel, by decide +kernel⟩, List.mem_of_getElem? (i := 180) (by decide +kernel), List.mem_of_getElem? (i := 688) (by decide +kernel), List.mem_of_getElem? (i := 689) (by decide +kernel)⟩
theorem lw_p28 : lw_okq (⟨"WhoseHare$Scene", "isOnItsPlace", "(I)Z"⟩, 20) := ⟨⟨by decide +kernel, by decide +kernel⟩, List.mem_of_getElem? (i := 180) (by decide +kernel), List.mem_of_getElem? (i := 692) (by decide +kernel), List.mem_of_getElem? (i := 693) (by decide +kernel)⟩
theorem lw_p29 : lw_okq (⟨"WhoseHare$Scene", "isHeld", "(I)Z"⟩, 20) := ⟨⟨by decide +kernel, by decide +kernel⟩, List.mem_of_getElem? (i := 180) (by decide +kernel), List.mem_of_getElem? (i := 696) (by decide +kernel), List.mem_of_getElem? (i := 697) (by decide +kernel)⟩
theorem lw_p30 : lw_okq (⟨"WhoseHare", "beastTaken", "(II)I"⟩, 10) := ⟨⟨by decide +kernel, by decide +kernel⟩, List.mem_of_getElem? (i := 20) (by decide +kernel), List.mem_of_getElem? (i := 862) (by decide +kernel), List.mem_of_getElem? (i := 863) (by decide +kernel)⟩
theorem lw_p31 : lw_okq (⟨"WhoseHare", "claimTaken", "(II)I"⟩, 10) := ⟨⟨by decide +kernel, by decide +kernel⟩, List.mem_of_getElem? (i := 20) (by decide +kernel), List.mem_of_getElem? (i := 866) (by decide +kernel), List.mem_of_getElem? (i := 867) (by decide +kernel)⟩
def lw_privs_2 : List (MethodName × Nat) := [(⟨"WhoseHare", "useText", "(I)V"⟩, 10), (⟨"WhoseHare$Scene", "make", "(IIIII)V"⟩, 20), (⟨"WhoseHare$Scene", "makeForGround", "(II)V"⟩, 20), (⟨"WhoseHare$Scene", "makeOfLiving", "(IIIII)V"⟩, 20), (⟨"WhoseHare$Scene", "lose", "(III)V"⟩, 20), (⟨"WhoseHare$Scene", "cross", "(III)V"⟩, 20), (⟨"WhoseHare$Scene", "kill", "(II)V"⟩, 20), (⟨"WhoseHare$Scene", "yields", "(I)Z"⟩, 20), (⟨"WhoseHare$Scene", "letGo", "(II)V"⟩, 20), (⟨"WhoseHare$Scene", "isHoldOf", "(II)Z"⟩, 20), (⟨"WhoseHare$Scene", "give", "(III)V"⟩, 20), (⟨"WhoseHare$Scene", "isLostForLong", "(I)Z"⟩, 20), (⟨"WhoseHare$Scene", "isOnItsPlace", "(I)Z"⟩, 20), (⟨"WhoseHare$Scene", "isHeld", "(I)Z"⟩, 20), (⟨"WhoseHare", "beastTaken", "(II)I"⟩, 10), (⟨"WhoseHare", "claimTaken", "(II)I"⟩, 10)]
theorem lw_r2 : ∀ q ∈ lw_privs_2, lw_okq q := List.forall_mem_cons.mpr ⟨lw_p16, List.forall_mem_cons.mpr ⟨lw_p17, List.forall_mem_cons.mpr ⟨lw_p18, List.forall_mem_cons.mpr ⟨lw_p19, List.forall_mem_cons.mpr ⟨lw_p20, List.forall_mem_cons.mpr ⟨lw_p21, List.forall_mem_cons.mpr ⟨lw_p22, List.forall_mem_cons.mpr ⟨lw_p23, List.forall_mem_cons.mpr ⟨lw_p24, List.forall_mem_cons.mpr ⟨lw_p25, List.forall_mem_cons.mpr ⟨lw_p26, List.forall_mem_cons.mpr ⟨lw_p27, List.forall_mem_cons.mpr ⟨lw_p28, List.forall_mem_cons.mpr ⟨lw_p29, List.forall_mem_cons.mpr ⟨lw_p30, List.forall_mem_cons.mpr ⟨lw_p31, fun _ h => absurd h List.not_mem_nil⟩⟩⟩⟩⟩⟩⟩⟩⟩⟩⟩⟩⟩⟩⟩⟩
theorem lw_p32 : lw_okq (⟨"WhoseHareModel", "first", "(IIIII)V"⟩, 51) := ⟨⟨by decide +kernel, by decide +kernel⟩, List.mem_of_getElem? (i := 876) (by decide +kernel), List.mem_of_getElem? (i := 894) (by decide +kernel), List.mem_of_getElem? (i := 895) (by decide +kernel)⟩
theorem lw_p33 : lw_okq (⟨"WhoseHareModel", "isGround", "(I)Z"⟩, 51) := ⟨⟨by decide +kernel, by decide +kernel⟩, List.mem_of_getElem? (i := 876) (by decide +kernel), List.mem_of_getElem? (i := 1066) (by decide +kernel), List.mem_of_getElem? (i := 1067) (by decide +kernel)⟩
theorem lw_p34 : lw_okq (⟨"WhoseHareModel", "isBeast", "(I)Z"⟩, 51) := ⟨⟨by decide +kernel, by decide +kernel⟩, List.mem_of_getElem? (i := 876) (by decide +kernel), List.mem_of_getElem? (i := 1078) (by decide +kernel), List.mem_of_getElem? (i := 1079) (by decide +kernel)⟩
theorem lw_p35 : lw_okq (⟨"WhoseHareModel", "isMoment", "(I)Z"⟩, 51) := ⟨⟨by decide +kernel, by decide +kernel⟩, List.mem_of_getElem? (i := 876) (by decide +kernel), List.mem_of_getElem? (i := 1090) (by decide +kernel), List.mem_of_getElem? (i := 1091) (by decide +kernel)⟩
theorem lw_p36 : lw_okq (⟨"WhoseHareModel", "unsureMany", "()I"⟩, 51) := ⟨⟨by decide +kernel, by decide +kernel⟩, List.mem_of_getElem? (i := 876) (by decide +kernel), List.mem_of_getElem? (i := 1094) (by decide +kernel), List.mem_of_getElem? (i := 1095) (by decide +kernel)⟩
theorem lw_p37 : lw_okq (⟨"WhoseHareModel", "next", "()V"⟩, 51) := ⟨⟨by decide +kernel, by decide +kernel⟩, List.mem_of_getElem? (i := 876) (by decide +kernel), List.mem_of_getElem? (i := 1111) (by decide +kernel), List.mem_of_getElem? (i := 1112) (by decide +kernel)⟩
theorem lw_p38 : lw_okq (⟨"WhoseHareModel", "letters", "()J"⟩, 51) := ⟨⟨by decide +kernel, by decide +kernel⟩, List.mem_of_getElem? (i := 876) (by decide +kernel), List.mem_of_getElem? (i := 1115) (by decide +kernel), List.mem_of_getElem? (i := 1116) (by decide +kernel)⟩
theorem lw_p39 : lw_okq (⟨"WhoseHareModel", "eRead", "()Z"⟩, 51) := ⟨⟨by decide +kernel, by decide +kernel⟩, List.mem_of_getElem? (i := 876) (by decide +kernel), List.mem_of_getElem? (i := 1119) (by decide +kernel), List.mem_of_getElem? (i := 1120) (by decide +kernel)⟩
theorem lw_p40 : lw_okq (⟨"WhoseHareModel", "puts", "(I)V"⟩, 51) := ⟨⟨by decide +kernel, by decide +kernel⟩, List.mem_of_getElem? (i := 876) (by decide +kernel), List.mem_of_getElem? (i := 1124) (by decide +kernel), List.mem_of_getElem? (i := 1125) (by decide +kernel)⟩
theorem lw_p41 : lw_okq (⟨"WhoseHareModel", "unwinds", "(I)V"⟩, 51) := ⟨⟨by decide +kernel, by decide +kernel⟩, List.mem_of_getElem? (i := 876) (by decide +kernel), List.mem_of_getElem? (i := 1128) (by decide +kernel), List.mem_of_getElem? (i := 1129) (by decide +kernel)⟩
theorem lw_p42 : lw_okq (⟨"WhoseHareModel", "opensOne", "(I)Z"⟩, 51) := ⟨⟨by decide +kernel, by decide +kernel⟩, List.mem_of_getElem? (i := 876) (by decide +kernel), List.mem_of_getElem? (i := 1135) (by decide +kernel), List.mem_of_getElem? (i := 1136) (by decide +kernel)⟩
theorem lw_p43 : lw_okq (⟨"WhoseHareModel", "holds", "(I)V"⟩, 51) := ⟨⟨by decide +kernel, by decide +kernel⟩, List.mem_of_getElem? (i := 876) (by decide +kernel), List.mem_of_getElem? (i := 1139) (by decide +kernel), List.mem_of_getElem? (i := 1140) (by decide +kernel)⟩
theorem lw_p44 : lw_okq (⟨"WhoseHareModel", "signOf", "()I"⟩, 51) := ⟨⟨by decide +kernel, by decide +kernel⟩, List.mem_of_getElem? (i := 876) (by decide +kernel), List.mem_of_getElem? (i := 1143) (by decide +kernel), List.mem_of_getElem? (i := 1144) (by decide +kernel)⟩
theorem lw_p45 : lw_okq (⟨"WhoseHareModel", "between", "(I)Z"⟩, 51) := ⟨⟨by decide +kernel, by decide +kernel⟩, List.mem_of_getElem? (i := 876) (by decide +kernel), List.mem_of_getElem? (i := 1147) (by decide +kernel), List.mem_of_getElem? (i := 1148) (by decide +kernel)⟩
theorem lw_p46 : lw_okq (⟨"WhoseHareModel", "mayFollow", "(III)Z"⟩, 51) := ⟨⟨by decide +kernel, by decide +kernel⟩, List.mem_of_getElem? (i := 876) (by decide +kernel), List.mem_of_getElem? (i := 1159) (by decide +kernel), List.mem_of_getElem? (i := 1160) (by decide +kernel)⟩
theorem lw_p47 : lw_okq (⟨"WhoseHareModel", "names", "(IIIIII)V"⟩, 51) := ⟨⟨by decide +kernel, by decide +kernel⟩, List.mem_of_getElem? (i := 876) (by decide +kernel), List.mem_of_getElem? (i := 1163) (by decide +kernel), List.mem_of_getElem? (i := 1164) (by decide +kernel)⟩
def lw_privs_3 : List (MethodName × Nat) := [(⟨"WhoseHareModel", "first", "(IIIII)V"⟩, 51), (⟨"WhoseHareModel", "isGround", "(I)Z"⟩, 51), (⟨"WhoseHareModel", "isBeast", "(I)Z"⟩, 51), (⟨"WhoseHareModel", "isMoment", "(I)Z"⟩, 51), (⟨"WhoseHareModel", "unsureMany", "()I"⟩, 51), (⟨"WhoseHareModel", "next", "()V"⟩, 51), (⟨"WhoseHareModel", "letters", "()J"⟩, 51), (⟨"WhoseHareModel", "eRead", "()Z"⟩, 51), (⟨"WhoseHareModel", "puts", "(I)V"⟩, 51), (⟨"WhoseHareModel", "unwinds", "(I)V"⟩, 51), (⟨"WhoseHareModel", "opensOne", "(I)Z"⟩, 51), (⟨"WhoseHareModel", "holds", "(I)V"⟩, 51), (⟨"WhoseHareModel", "signOf", "()I"⟩, 51), (⟨"WhoseHareModel", "between", "(I)Z"⟩, 51), (⟨"WhoseHareModel", "mayFollow", "(III)Z"⟩, 51), (⟨"WhoseHareModel", "names", "(IIIIII)V"⟩, 51)]
theorem lw_r3 : ∀ q ∈ lw_privs_3, lw_okq q := List.forall_mem_cons.mpr ⟨lw_p32, List.forall_mem_cons.mpr ⟨lw_p33, List.forall_mem_cons.mpr ⟨lw_p34, List.forall_mem_cons.mpr ⟨lw_p35, List.forall_mem_cons.mpr ⟨lw_p36, List.forall_mem_cons.mpr ⟨lw_p37, List.forall_mem_cons.mpr ⟨lw_p38, List.forall_mem_cons.mpr ⟨lw_p39, List.forall_mem_cons.mpr ⟨lw_p40, List.forall_mem_cons.mpr ⟨lw_p41, List.forall_mem_cons.mpr ⟨lw_p42, List.forall_mem_cons.mpr ⟨lw_p43, List.forall_mem_cons.mpr ⟨lw_p44, List.forall_mem_cons.mpr ⟨lw_p45, List.forall_mem_cons.mpr ⟨lw_p46, List.forall_mem_cons.mpr ⟨lw_p47, fun _ h => absurd h List.not_mem_nil⟩⟩⟩⟩⟩⟩⟩⟩⟩⟩⟩⟩⟩⟩⟩⟩
theorem lw_p48 : lw_okq (⟨"WhoseHareModel", "worth", "(I)I"⟩, 51) := ⟨⟨by decide +kernel, by decide +kernel⟩, List.mem_of_getElem? (i := 876) (by decide +kernel), List.mem_of_getElem? (i := 1167) (by decide +kernel), List.mem_of_getElem? (i := 1168) (by decide +kernel)⟩
theorem lw_p49 : lw_okq (⟨"WhoseHareModel", "works", "(II)V"⟩, 51) := ⟨⟨by decide +kernel, by decide +kernel⟩, List.mem_of_getElem? (i := 876) (by decide +kernel), List.mem_of_getElem? (i := 1178) (by decide +kernel), List.mem_of_getElem? (i := 1179) (by decide +kernel)⟩
theorem lw_p50 : lw_okq (⟨"WhoseHareModel", "makes", "(IIIIII)V"⟩, 51) := ⟨⟨by decide +kernel, by decide +kernel⟩, List.mem_of_getElem? (i := 876) (by decide +kernel), List.mem_of_getElem? (i := 1182) (by decide +kernel), List.mem_of_getElem? (i := 1183) (by decide +kernel)⟩
theorem lw_p51 : lw_okq (⟨"WhoseHareModel", "passes", "(I)V"⟩, 51) := ⟨⟨by decide +kernel, by decide +kernel⟩, List.mem_of_getElem? (i := 876) (by decide +kernel), List.mem_of_getElem? (i := 1186) (by decide +kernel), List.mem_of_getElem? (i := 1187) (by decide +kernel)⟩
theorem lw_p52 : lw_okq (⟨"WhoseHareModel", "crosses", "(III)V"⟩, 51) := ⟨⟨by decide +kernel, by decide +kernel⟩, List.mem_of_getElem? (i := 876) (by decide +kernel), List.mem_of_getElem? (i := 1190) (by decide +kernel), List.mem_of_getElem? (i := 1191) (by decide +kernel)⟩
theorem lw_p53 : lw_okq (⟨"WhoseHareModel", "isHeldBy", "(III)Z"⟩, 51) := ⟨⟨by decide +kernel, by decide +kernel⟩, List.mem_of_getElem? (i := 876) (by decide +kernel), List.mem_of_getElem? (i := 1194) (by decide +kernel), List.mem_of_getElem? (i := 1195) (by decide +kernel)⟩
theorem lw_p54 : lw_okq (⟨"WhoseHareModel", "stands", "(I)Z"⟩, 51) := ⟨⟨by decide +kernel, by decide +kernel⟩, List.mem_of_getElem? (i := 876) (by decide +kernel), List.mem_of_getElem? (i := 1202) (by decide +kernel), List.mem_of_getElem? (i := 1203) (by decide +kernel)⟩
theorem lw_p55 : lw_okq (⟨"WhoseHareModel", "isHeld", "(I)Z"⟩, 51) := ⟨⟨by decide +kernel, by decide +kernel⟩, List.mem_of_getElem? (i := 876) (by decide +kernel), List.mem_of_getElem? (i := 1206) (by decide +kernel), List.mem_of_getElem? (i := 1207) (by decide +kernel)⟩
theorem lw_p56 : lw_okq (⟨"WhoseHareModel", "weight", "(I)I"⟩, 51) := ⟨⟨by decide +kernel, by decide +kernel⟩, List.mem_of_getElem? (i := 876) (by decide +kernel), List.mem_of_getElem? (i := 1210) (by decide +kernel), List.mem_of_getElem? (i := 1211) (by decide +kernel)⟩
theorem lw_p57 : lw_okq (⟨"WhoseHareModel", "worthOf", "(I)I"⟩, 51) := ⟨⟨by decide +kernel, by decide +kernel⟩, List.mem_of_getElem? (i := 876) (by decide +kernel), List.mem_of_getElem? (i := 1214) (by decide +kernel), List.mem_of_getElem? (i := 1215) (by decide +kernel)⟩
theorem lw_p58 : lw_okq (⟨"WhoseHareModel", "whose", "(I)I"⟩, 51) := ⟨⟨by decide +kernel, by decide +kernel⟩, List.mem_of_getElem? (i := 876) (by decide +kernel), List.mem_of_getElem? (i := 1222) (by decide +kernel), List.mem_of_getElem? (i := 1223) (by decide +kernel)⟩
theorem lw_p59 : lw_okq (⟨"WhoseHareModel", "winner", "(I)I"⟩, 51) := ⟨⟨by decide +kernel, by decide +kernel⟩, List.mem_of_getElem? (i := 876) (by decide +kernel), List.mem_of_getElem? (i := 1226) (by decide +kernel), List.mem_of_getElem? (i := 1227) (by decide +kernel)⟩
theorem lw_p60 : lw_okq (⟨"WhoseHareModel", "nobodyOf", "(I)I"⟩, 51) := ⟨⟨by decide +kernel, by decide +kernel⟩, List.mem_of_getElem? (i := 876) (by decide +kernel), List.mem_of_getElem? (i := 1242) (by decide +kernel), List.mem_of_getElem? (i := 1243) (by decide +kernel)⟩
theorem lw_p61 : lw_okq (⟨"WhoseHareModel", "whoseWithout", "(II)I"⟩, 51) := ⟨⟨by decide +kernel, by decide +kernel⟩, List.mem_of_getElem? (i := 876) (by decide +kernel), List.mem_of_getElem? (i := 1254) (by decide +kernel), List.mem_of_getElem? (i := 1255) (by decide +kernel)⟩
theorem lw_p62 : lw_okq (⟨"WhoseHareModel", "without", "(I)I"⟩, 51) := ⟨⟨by decide +kernel, by decide +kernel⟩, List.mem_of_getElem? (i := 876) (by decide +kernel), List.mem_of_getElem? (i := 1258) (by decide +kernel), List.mem_of_getElem? (i := 1259) (by decide +kernel)⟩
theorem lw_p63 : lw_okq (⟨"WhoseHareModel", "quarrels", "(I)I"⟩, 51) := ⟨⟨by decide +kernel, by decide +kernel⟩, List.mem_of_getElem? (i := 876) (by decide +kernel), List.mem_of_getElem? (i := 1285) (by decide +kernel), List.mem_of_getElem? (i := 1286) (by decide +kernel)⟩
def lw_privs_4 : List (MethodName × Nat) := [(⟨"WhoseHareModel", "worth", "(I)I"⟩, 51), (⟨"WhoseHareModel", "works", "(II)V"⟩, 51), (⟨"WhoseHareModel", "makes", "(IIIIII)V"⟩, 51), (⟨"WhoseHareModel", "passes", "(I)V"⟩, 51), (⟨"WhoseHareModel", "crosses", "(III)V"⟩, 51), (⟨"WhoseHareModel", "isHeldBy", "(III)Z"⟩, 51), (⟨"WhoseHareModel", "stands", "(I)Z"⟩, 51), (⟨"WhoseHareModel", "isHeld", "(I)Z"⟩, 51), (⟨"WhoseHareModel", "weight", "(I)I"⟩, 51), (⟨"WhoseHareModel", "worthOf", "(I)I"⟩, 51), (⟨"WhoseHareModel", "whose", "(I)I"⟩, 51), (⟨"WhoseHareModel", "winner", "(I)I"⟩, 51), (⟨"WhoseHareModel", "nobodyOf", "(I)I"⟩, 51), (⟨"WhoseHareModel", "whoseWithout", "(II)I"⟩, 51), (⟨"WhoseHareModel", "without", "(I)I"⟩, 51), (⟨"WhoseHareModel", "quarrels", "(I)I"⟩, 51)]
theorem lw_r4 : ∀ q ∈ lw_privs_4, lw_okq q := List.forall_mem_cons.mpr ⟨lw_p48, List.forall_mem_cons.mpr ⟨lw_p49, List.forall_mem_cons.mpr ⟨lw_p50, List.forall_mem_cons.mpr ⟨lw_p51, List.forall_mem_cons.mpr ⟨lw_p52, List.forall_mem_cons.mpr ⟨lw_p53, List.forall_mem_cons.mpr ⟨lw_p54, List.forall_mem_cons.mpr ⟨lw_p55, List.forall_mem_cons.mpr ⟨lw_p56, List.forall_mem_cons.mpr ⟨lw_p57, List.forall_mem_cons.mpr ⟨lw_p58, List.forall_mem_cons.mpr ⟨lw_p59, List.forall_mem_cons.mpr ⟨lw_p60, List.forall_mem_cons.mpr ⟨lw_p61, List.forall_mem_cons.mpr ⟨lw_p62, List.forall_mem_cons.mpr ⟨lw_p63, fun _ h => absurd h List.not_mem_nil⟩⟩⟩⟩⟩⟩⟩⟩⟩⟩⟩⟩⟩⟩⟩⟩
theorem lw_p64 : lw_okq (⟨"WhoseHareModel", "doQuarrel", "(I)Z"⟩, 51) := ⟨⟨by decide +kernel, by decide +kernel⟩, List.mem_of_getElem? (i := 876) (by decide +kernel), List.mem_of_getElem? (i := 1289) (by decide +kernel), List.mem_of_getElem? (i := 1290) (by decide +kernel)⟩
def lw_privs_5 : List (MethodName × Nat) := [(⟨"WhoseHareModel", "doQuarrel", "(I)Z"⟩, 51)]
theorem lw_r5 : ∀ q ∈ lw_privs_5, lw_okq q := List.forall_mem_cons.mpr ⟨lw_p64, fun _ h => absurd h List.not_mem_nil⟩
def lw_privs : List (MethodName × Nat) := lw_privs_1 ++ (lw_privs_2 ++ (lw_privs_3 ++ (lw_privs_4 ++ (lw_privs_5))))
def lw_tbl : List Cond := k2_sels lw_privs ++ tables_1
theorem lw_privs_ok : ∀ q ∈ lw_privs, lw_okq q := by
  show ∀ q ∈ lw_privs_1 ++ (lw_privs_2 ++ (lw_privs_3 ++ (lw_privs_4 ++ (lw_privs_5)))), lw_okq q
  exact List.forall_mem_append.mpr ⟨lw_r1, List.forall_mem_append.mpr ⟨lw_r2, List.forall_mem_append.mpr ⟨lw_r3, List.forall_mem_append.mpr ⟨lw_r4, lw_r5⟩⟩⟩⟩
def R_Land : String := "WhoseHare$Land"
def T_Land : u_T := fun k => match k with
  | 0 => ("WhoseHare$Land", "owner", "[I", true)
  | 1 => ("WhoseHare$Land", "home", "[I", true)
  | 2 => ("WhoseHare$Land", "keeper", "[I", true)
  | 3 => ("WhoseHare$Land", "grounds", "I", false)
  | _ => ("WhoseHare$Land", "beasts", "I", false)
def t_Land : Nat → FieldType := fun k => match k with
  | 0 => .array .int
  | 1 => .array .int
  | 2 => .array .int
  | 3 => .int
  | _ => .int

def R_Diary : String := "WhoseHare$Diary"
def T_Diary : u_T := fun k => match k with
  | 0 => ("WhoseHare$Diary", "time", "[I", true)
  | 1 => ("WhoseHare$Diary", "what", "[I", true)
  | 2 => ("WhoseHare$Diary", "beast", "[I", true)
  | 3 => ("WhoseHare$Diary", "by", "[I", true)
  | 4 => ("WhoseHare$Diary", "number", "[I", true)
  | 5 => ("WhoseHare$Diary", "unsure", "[I", true)
  | _ => ("WhoseHare$Diary", "size", "I", false)
def t_Diary : Nat → FieldType := fun k => match k with
  | 0 => .array .int
  | 1 => .array .int
  | 2 => .array .int
  | 3 => .array .int
  | 4 => .array .int
  | 5 => .array .int
  | _ => .int

def R_Reader : String := "WhoseHare$Reader"
def T_Reader : u_T := fun k => match k with
  | 0 => ("WhoseHare$Reader", "tape", "[B", true)
  | 1 => ("WhoseHare$Reader", "size", "I", false)
  | 2 => ("WhoseHare$Reader", "fault", "I", false)
  | 3 => ("WhoseHare$Reader", "code", "[I", true)
  | 4 => ("WhoseHare$Reader", "codeSize", "I", false)
  | 5 => ("WhoseHare$Reader", "worthSize", "I", false)
  | 6 => ("WhoseHare$Reader", "token", "I", false)
  | 7 => ("WhoseHare$Reader", "tokenPlace", "I", false)
  | 8 => ("WhoseHare$Reader", "tokenCode", "I", false)
  | 9 => ("WhoseHare$Reader", "next", "I", false)
  | _ => ("WhoseHare$Reader", "open", "I", false)
def t_Reader : Nat → FieldType := fun k => match k with
  | 0 => .array .byte
  | 1 => .int
  | 2 => .int
  | 3 => .array .int
  | 4 => .int
  | 5 => .int
  | 6 => .int
  | 7 => .int
  | 8 => .int
  | 9 => .int
  | _ => .int

def R_Scales : String := "WhoseHare$Scales"
def T_Scales : u_T := fun k => match k with
  | 0 => ("WhoseHare$Scales", "names", "[I", true)
  | 1 => ("WhoseHare$Scales", "stack", "[I", true)
  | _ => ("WhoseHare$Scales", "text", "LWhoseHare$Text;", false)
def t_Scales : Nat → FieldType := fun k => match k with
  | 0 => .array .int
  | 1 => .array .int
  | _ => .object "WhoseHare$Text"

def R_Scene : String := "WhoseHare$Scene"
def T_Scene : u_T := fun k => match k with
  | 0 => ("WhoseHare$Scene", "land", "LWhoseHare$Land;", true)
  | 1 => ("WhoseHare$Scene", "diary", "LWhoseHare$Diary;", true)
  | 2 => ("WhoseHare$Scene", "scales", "LWhoseHare$Scales;", true)
  | 3 => ("WhoseHare$Scene", "kind", "[I", true)
  | 4 => ("WhoseHare$Scene", "whose", "[I", true)
  | 5 => ("WhoseHare$Scene", "beast", "[I", true)
  | 6 => ("WhoseHare$Scene", "since", "[I", true)
  | 7 => ("WhoseHare$Scene", "badly", "[I", true)
  | 8 => ("WhoseHare$Scene", "place", "[I", true)
  | 9 => ("WhoseHare$Scene", "lost", "[I", true)
  | 10 => ("WhoseHare$Scene", "ended", "[Z", true)
  | 11 => ("WhoseHare$Scene", "size", "I", false)
  | 12 => ("WhoseHare$Scene", "now", "I", false)
  | 13 => ("WhoseHare$Scene", "at", "[I", true)
  | 14 => ("WhoseHare$Scene", "away", "[I", true)
  | 15 => ("WhoseHare$Scene", "dead", "[Z", true)
  | 16 => ("WhoseHare$Scene", "best", "I", false)
  | 17 => ("WhoseHare$Scene", "disputed", "Z", false)
  | 18 => ("WhoseHare$Scene", "quarrels", "I", false)
  | _ => ("WhoseHare$Scene", "unowned", "I", false)
def t_Scene : Nat → FieldType := fun k => match k with
  | 0 => .object "WhoseHare$Land"
  | 1 => .object "WhoseHare$Diary"
  | 2 => .object "WhoseHare$Scales"
  | 3 => .array .int
  | 4 => .array .int
  | 5 => .array .int
  | 6 => .array .int
  | 7 => .array .int
  | 8 => .array .int
  | 9 => .array .int
  | 10 => .array .boolean
  | 11 => .int
  | 12 => .int
  | 13 => .array .int
  | 14 => .array .int
  | 15 => .array .boolean
  | 16 => .int
  | 17 => .boolean
  | 18 => .int
  | _ => .int

def R_Text : String := "WhoseHare$Text"
def T_Text : u_T := fun k => match k with
  | 0 => ("WhoseHare$Text", "worth", "[I", true)
  | _ => ("WhoseHare$Text", "follow", "[I", true)
def t_Text : Nat → FieldType := fun k => match k with
  | 0 => .array .int
  | _ => .array .int

def R_Sheet : String := "WhoseHare$Sheet"
def T_Sheet : u_T := fun k => match k with
  | 0 => ("WhoseHare$Sheet", "row", "[I", true)
  | 1 => ("WhoseHare$Sheet", "sort", "I", false)
  | _ => ("WhoseHare$Sheet", "size", "I", false)
def t_Sheet : Nat → FieldType := fun k => match k with
  | 0 => .array .int
  | 1 => .int
  | _ => .int

def R_Image : String := "WhoseHare$Image"
def T_Image : u_T := fun k => match k with
  | 0 => ("WhoseHare$Image", "isKept", "Z", false)
  | 1 => ("WhoseHare$Image", "law", "I", false)
  | 2 => ("WhoseHare$Image", "owner", "[I", true)
  | 3 => ("WhoseHare$Image", "unsure", "[I", true)
  | 4 => ("WhoseHare$Image", "grounds", "I", false)
  | _ => ("WhoseHare$Image", "moments", "I", false)
def t_Image : Nat → FieldType := fun k => match k with
  | 0 => .boolean
  | 1 => .int
  | 2 => .array .int
  | 3 => .array .int
  | 4 => .int
  | _ => .int

def R_Hare : String := "WhoseHare"
def T_Hare : u_T := fun k => match k with
  | 0 => ("WhoseHare", "land", "LWhoseHare$Land;", true)
  | 1 => ("WhoseHare", "diary", "LWhoseHare$Diary;", true)
  | 2 => ("WhoseHare", "reader", "LWhoseHare$Reader;", true)
  | 3 => ("WhoseHare", "scales", "LWhoseHare$Scales;", true)
  | 4 => ("WhoseHare", "scene", "LWhoseHare$Scene;", true)
  | 5 => ("WhoseHare", "texts", "[LWhoseHare$Text;", true)
  | 6 => ("WhoseHare", "sheets", "[LWhoseHare$Sheet;", true)
  | 7 => ("WhoseHare", "kept", "LWhoseHare$Image;", true)
  | 8 => ("WhoseHare", "textCount", "I", false)
  | _ => ("WhoseHare", "law", "I", false)
def t_Hare : Nat → FieldType := fun k => match k with
  | 0 => .object "WhoseHare$Land"
  | 1 => .object "WhoseHare$Diary"
  | 2 => .object "WhoseHare$Reader"
  | 3 => .object "WhoseHare$Scales"
  | 4 => .object "WhoseHare$Scene"
  | 5 => .array (.object "WhoseHare$Text")
  | 6 => .array (.object "WhoseHare$Sheet")
  | 7 => .object "WhoseHare$Image"
  | 8 => .int
  | _ => .int

def R_Model : String := "WhoseHareModel"
def T_Model : u_T := fun k => match k with
  | 0 => ("WhoseHareModel", "grounds", "I", false)
  | 1 => ("WhoseHareModel", "owner", "[I", true)
  | 2 => ("WhoseHareModel", "beasts", "I", false)
  | 3 => ("WhoseHareModel", "home", "[I", true)
  | 4 => ("WhoseHareModel", "keeper", "[I", true)
  | 5 => ("WhoseHareModel", "moments", "I", false)
  | 6 => ("WhoseHareModel", "time", "[I", true)
  | 7 => ("WhoseHareModel", "what", "[I", true)
  | 8 => ("WhoseHareModel", "momentBeast", "[I", true)
  | 9 => ("WhoseHareModel", "by", "[I", true)
  | 10 => ("WhoseHareModel", "number", "[I", true)
  | 11 => ("WhoseHareModel", "isUnsure", "[I", true)
  | 12 => ("WhoseHareModel", "tape", "[I", true)
  | 13 => ("WhoseHareModel", "taped", "I", false)
  | 14 => ("WhoseHareModel", "codes", "[I", true)
  | 15 => ("WhoseHareModel", "starts", "[I", true)
  | 16 => ("WhoseHareModel", "texts", "I", false)
  | 17 => ("WhoseHareModel", "rule", "I", false)
  | 18 => ("WhoseHareModel", "claims", "I", false)
  | 19 => ("WhoseHareModel", "kind", "[I", true)
  | 20 => ("WhoseHareModel", "who", "[I", true)
  | 21 => ("WhoseHareModel", "beastOf", "[I", true)
  | 22 => ("WhoseHareModel", "since", "[I", true)
  | 23 => ("WhoseHareModel", "badly", "[I", true)
  | 24 => ("WhoseHareModel", "placeOf", "[I", true)
  | 25 => ("WhoseHareModel", "lost", "[I", true)
  | 26 => ("WhoseHareModel", "ended", "[Z", true)
  | 27 => ("WhoseHareModel", "where", "[I", true)
  | 28 => ("WhoseHareModel", "away", "[I", true)
  | 29 => ("WhoseHareModel", "dead", "[Z", true)
  | 30 => ("WhoseHareModel", "now", "I", false)
  | 31 => ("WhoseHareModel", "hasImage", "Z", false)
  | 32 => ("WhoseHareModel", "imageGrounds", "I", false)
  | 33 => ("WhoseHareModel", "imageMoments", "I", false)
  | 34 => ("WhoseHareModel", "imageRule", "I", false)
  | 35 => ("WhoseHareModel", "imageOwner", "[I", true)
  | 36 => ("WhoseHareModel", "imageUnsure", "[I", true)
  | 37 => ("WhoseHareModel", "sheetSort", "[I", true)
  | 38 => ("WhoseHareModel", "sheetSize", "[I", true)
  | 39 => ("WhoseHareModel", "cells", "[I", true)
  | 40 => ("WhoseHareModel", "at", "I", false)
  | 41 => ("WhoseHareModel", "begun", "I", false)
  | 42 => ("WhoseHareModel", "token", "I", false)
  | 43 => ("WhoseHareModel", "value", "I", false)
  | 44 => ("WhoseHareModel", "words", "[J", true)
  | 45 => ("WhoseHareModel", "held", "[I", true)
  | 46 => ("WhoseHareModel", "heldMany", "I", false)
  | 47 => ("WhoseHareModel", "opens", "I", false)
  | 48 => ("WhoseHareModel", "out", "I", false)
  | 49 => ("WhoseHareModel", "stack", "[I", true)
  | _ => ("WhoseHareModel", "named", "[I", true)
def t_Model : Nat → FieldType := fun k => match k with
  | 0 => .int
  | 1 => .array .int
  | 2 => .int
  | 3 => .array .int
  | 4 => .array .int
  | 5 => .int
  | 6 => .array .int
  | 7 => .array .int
  | 8 => .array .int
  | 9 => .array .int
  | 10 => .array .int
  | 11 => .array .int
  | 12 => .array .int
  | 13 => .int
  | 14 => .array .int
  | 15 => .array .int
  | 16 => .int
  | 17 => .int
  | 18 => .int
  | 19 => .array .int
  | 20 => .array .int
  | 21 => .array .int
  | 22 => .array .int
  | 23 => .array .int
  | 24 => .array .int
  | 25 => .array .int
  | 26 => .array .boolean
  | 27 => .array .int
  | 28 => .array .int
  | 29 => .array .boolean
  | 30 => .int
  | 31 => .boolean
  | 32 => .int
  | 33 => .int
  | 34 => .int
  | 35 => .array .int
  | 36 => .array .int
  | 37 => .array .int
  | 38 => .array .int
  | 39 => .array .int
  | 40 => .int
  | 41 => .int
  | 42 => .int
  | 43 => .int
  | 44 => .array .long
  | 45 => .array .int
  | 46 => .int
  | 47 => .int
  | 48 => .int
  | 49 => .array .int
  | _ => .array .int

abbrev dk_cls : List vw_C := [(R_Land, T_Land, 5), (R_Diary, T_Diary, 7), (R_Reader, T_Reader, 11), (R_Scales, T_Scales, 3), (R_Scene, T_Scene, 20), (R_Text, T_Text, 2), (R_Sheet, T_Sheet, 3), (R_Image, T_Image, 6), (R_Hare, T_Hare, 10), (R_Model, T_Model, 51)]
/-! ===== J: the machine's judgement over (place, locals, stack, cells) alone: every heap that holds the cells ===== -/
theorem upd_s2 {f : Nat → Int32} {k : Nat} {x : Int32} : upd f k x k = x := by simp [upd]
theorem upd_n2 {f : Nat → Int32} {k j : Nat} {x : Int32} (h : j ≠ k) : upd f k x j = f j := by simp [upd, h]
/-- numbers of a world: by key and place -/
abbrev dk_S : Type := Nat → Nat → Int32
def dk_U (S : dk_S) (k j : Nat) (x : Int32) : dk_S := fun k' => if k' = k then upd (S k) j x else S k'
section DKF
variable {β : Type}
/-- steps of a method told as a function: what can't be done is none -/
def dk_r (n : Nat) (f : Nat → Int32) (i : Int32) (k : Int32 → Option β) : Option β := if i < 0 ∨ n ≤ i.toNatClampNeg then none else k (f i.toNatClampNeg)
def dk_rl (n : Nat) (f : Nat → Int64) (i : Int32) (k : Int64 → Option β) : Option β := if i < 0 ∨ n ≤ i.toNatClampNeg then none else k (f i.toNatClampNeg)
def dk_w (S : dk_S) (key n : Nat) (i x : Int32) (k : dk_S → Option β) : Option β := if i < 0 ∨ n ≤ i.toNatClampNeg then none else k (dk_U S key i.toNatClampNeg x)
def dk_p (S : dk_S) (key : Nat) (x : Int32) (k : dk_S → Option β) : Option β := k (dk_U S key 0 x)
def dk_b (x : Int32) (k : Option β) : Option β := if x = 0 ∨ x = 1 then k else none
def dk_c {α : Type} (o : Option (α × dk_S)) (k : α → dk_S → Option β) : Option β := match o with
  | none => none
  | some q => k q.1 q.2
def dk_cv (o : Option dk_S) (k : dk_S → Option β) : Option β := match o with
  | none => none
  | some q => k q
def dk_g (c : Prop) [Decidable c] (k : Option β) : Option β := if c then k else none
variable {n key : Nat} {f : Nat → Int32} {i x : Int32} {res : β} {S : dk_S}
theorem dk_r_out {k : Int32 → Option β} (h : dk_r n f i k = some res) : vp_in i n ∧ k (f i.toNatClampNeg) = some res := by
  unfold dk_r at h; split at h
  · cases h
  · rename_i q; exact ⟨q, h⟩
theorem dk_rl_out {f : Nat → Int64} {k : Int64 → Option β} (h : dk_rl n f i k = some res) : vp_in i n ∧ k (f i.toNatClampNeg) = some res := by
  unfold dk_rl at h; split at h
  · cases h
  · rename_i q; exact ⟨q, h⟩
theorem dk_w_out {k : dk_S → Option β} (h : dk_w S key n i x k = some res) : vp_in i n ∧ k (dk_U S key i.toNatClampNeg x) = some res := by
  unfold dk_w at h; split at h
  · cases h
  · rename_i q; exact ⟨q, h⟩
theorem dk_b_out {k : Option β} (h : dk_b x k = some res) : (x = 0 ∨ x = 1) ∧ k = some res := by
  unfold dk_b at h; split at h
  · rename_i q; exact ⟨q, h⟩
  · cases h
theorem dk_c_out {α : Type} {o : Option (α × dk_S)} {k : α → dk_S → Option β} (h : dk_c o k = some res) : ∃ q, o = some q ∧ k q.1 q.2 = some res := by
  cases o with
  | none => cases h
  | some q => exact ⟨q, rfl, h⟩
theorem dk_cv_out {o : Option dk_S} {k : dk_S → Option β} (h : dk_cv o k = some res) : ∃ q, o = some q ∧ k q = some res := by
  cases o with
  | none => cases h
  | some q => exact ⟨q, rfl, h⟩
theorem dk_g_out {c : Prop} [Decidable c] {k : Option β} (h : dk_g c k = some res) : c ∧ k = some res := by
  unfold dk_g at h; split at h
  · rename_i q; exact ⟨q, h⟩
  · cases h
theorem dk_if {c : Prop} [Decidable c] {a b : Option β} {G : Prop} (h : (if c then a else b) = some res) (ht : c → a = some res → G) (hf : ¬ c → b = some res → G) : G := by
  by_cases q : c
  · rw [if_pos q] at h; exact ht q h
  · rw [if_neg q] at h; exact hf q h
end DKF
/-- the tables' words that stay true as the machine warms -/
def dk_tb : List Cond := lw_tbl.filter goodWord
theorem dk_in {w : Cond} (h : w ∈ lw_tbl) (hg : goodWord w = true) : w ∈ dk_tb := List.mem_filter.mpr ⟨h, hg⟩
abbrev dk_G : Type := va_G × (Nat → ClassId) × (Nat → Nat) × (Nat → Nat)
abbrev dk_ty (g : dk_G) : List (ClassId × FieldType) := [(g.2.1 0, .int), (g.2.1 1, .boolean), (g.2.1 2, .byte), (g.2.1 3, .long), (g.2.1 4, .object R_Text), (g.2.1 5, .object R_Sheet)]
def dk_wtx : String := "kind since weight ground tame who worth follow or and not "
def dk_wbt : List Int32 := [107, 105, 110, 100, 32, 115, 105, 110, 99, 101, 32, 119, 101, 105, 103, 104, 116, 32, 103, 114, 111, 117, 110, 100, 32, 116, 97, 109, 101, 32, 119, 104, 111, 32, 119, 111, 114, 116, 104, 32, 102, 111, 108, 108, 111, 119, 32, 111, 114, 32, 97, 110, 100, 32, 110, 111, 116, 32]
/-- the one text constant: its cells are not the method's -/
def dk_Z (g : dk_G) (A : Nat → Prop) (U : State) (H : Heap) : Prop := vk_S 1 [58] [dk_wbt] g.2.2.1 g.2.2.2 A U H ∧ vk_R R_Reader 119 dk_wtx (g.2.2.1 0) U ∧ va_Z "java/lang/String" "COMPACT_STRINGS" "Z" (.int 1) A U H ∧ va_Zq "jdk/internal/util/Preconditions" "SIOOBE_FORMATTER" "Ljava/util/function/BiFunction;" A U H
theorem dk_Z.kept {g : dk_G} {A : Nat → Prop} {U : State} {H H1 : Heap} (h : dk_Z g A U H) (hq : ∀ a : Nat, a < H.size → ¬ A a → H1[a]? = H[a]?) : dk_Z g A U H1 := ⟨h.1.kept hq, h.2.1, h.2.2.1.kept hq, h.2.2.2.kept hq⟩
theorem dk_Z.narrow {g : dk_G} {A B : Nat → Prop} {U : State} {H : Heap} (h : dk_Z g A U H) (hAB : ∀ q, B q → A q) : dk_Z g B U H := ⟨h.1.narrow hAB, h.2.1, h.2.2.1.narrow hAB, h.2.2.2.narrow hAB⟩
theorem dk_Z.warm {g : dk_G} {A : Nat → Prop} {s U : State} {H : Heap} (hW : s.WarmedH U.vm) (h : dk_Z g A s H) : dk_Z g A U H := ⟨h.1.moved hW.alike, h.2.1.warm hW, h.2.2.1.moved hW.alike, h.2.2.2.moved hW.alike⟩
theorem dk_Z.same {g : dk_G} {A : Nat → Prop} {s U : State} {H : Heap} (hv : U.vm = s.vm) (h : dk_Z g A s H) : dk_Z g A U H := by
  have ha : s.vm.Alike U.vm := by rw [hv]; exact Vm.Alike.refl _
  exact ⟨h.1.moved ha, h.2.1.same hv, h.2.2.1.moved ha, h.2.2.2.moved ha⟩
def dk_X (p : Program) (s : State) (m : MethodId) (args : Array Value) (meth : Method) (c : Code) (cc : ByteArray) (nL : Nat) (own : String) (ret : Option FieldType) (g : dk_G) (A : Nat → Prop) : Prop :=
  p.tables.exec = Jvm.exec ∧ c.code = cc ∧ c.maxLocals = nL ∧ s.vm.findClass own = some m.cls ∧ (∀ w ∈ dk_tb, w.before args s = true) ∧ va_K g.1 dk_cls (dk_ty g) s ∧ (∀ q, s.heap.size ≤ q → A q) ∧ meth.sig.returnType = ret ∧ meth.locks = false ∧ dk_Z g A s s.heap
def dk_J (p : Program) (l : Launch) (e : Env) (R : Room) (s : State) (m : MethodId) (args : Array Value) (below : List Frame) (meth : Method) (c : Code) (g : dk_G) (A : Nat → Prop) (Q : State → Prop) (nL cells slots pc : Nat) (lv : List (Nat × Value)) (st : List Value) (ws : va_W) : Prop :=
  ∀ (H : Heap) (locs : List Loc) (ls : Array Slot), va_P g.1 dk_cls ws H → va_D A ws → va_S A s.heap H locs → lv_has ls nL lv → W p l e R s m args below meth c H locs cells slots Q (F0 m pc ls st)
/-- what a class's tables say -/
def dk_Cl (C : String) (T : u_T) (N ci : Nat) (ty : Nat → FieldType) : Prop := (∀ w ∈ u_ws C T N, w ∈ dk_tb) ∧ dk_cls[ci]? = some (C, T, N) ∧ (∀ k, k < N → parseFieldDescriptor (T k).2.2.1 = some (ty k)) ∧ (∀ a, a < N → ∀ b, b < N → a ≠ b → (T a).2.1 ≠ (T b).2.1)
section DKJ
variable {p : Program} {l : Launch} {e : Env} {R : Room} {s : State} {m : MethodId} {args : Array Value} {below : List Frame} {meth : Method} {c : Code} {g : dk_G} {A : Nat → Prop} {Q : State → Prop} {nL cells slots pc : Nat} {lv : List (Nat × Value)} {st : List Value} {ws : va_W} {cc : ByteArray} {own : String} {ret : Option FieldType}
theorem dk_iconst (X : dk_X p s m args meth c cc nL own ret g A) {n : Int} {v : Int32} (hv : Int32.ofInt n = v) (hdg : decode cc pc = .ok (.iconst n, 1))
    (kk : dk_J p l e R s m args below meth c g A Q nL cells slots (pc + 1) lv (.int v :: st) ws) : dk_J p l e R s m args below meth c g A Q nL cells slots pc lv (st) ws := fun H locs ls hP hD hS hl =>
  lv_iconst X.1 X.2.1 hdg hv (kk H locs ls hP hD hS hl)
theorem dk_bipush (X : dk_X p s m args meth c cc nL own ret g A) {n : Int} {v : Int32} (hv : (Int8.ofInt n).toInt32 = v) (hdg : decode cc pc = .ok (.bipush n, 2))
    (kk : dk_J p l e R s m args below meth c g A Q nL cells slots (pc + 2) lv (.int v :: st) ws) : dk_J p l e R s m args below meth c g A Q nL cells slots pc lv (st) ws := fun H locs ls hP hD hS hl =>
  lv_bipush X.1 X.2.1 hdg hv (kk H locs ls hP hD hS hl)
theorem dk_sipush (X : dk_X p s m args meth c cc nL own ret g A) {n : Int} {v : Int32} (hv : (Int16.ofInt n).toInt32 = v) (hdg : decode cc pc = .ok (.sipush n, 3))
    (kk : dk_J p l e R s m args below meth c g A Q nL cells slots (pc + 3) lv (.int v :: st) ws) : dk_J p l e R s m args below meth c g A Q nL cells slots pc lv (st) ws := fun H locs ls hP hD hS hl =>
  lv_sipush X.1 X.2.1 hdg hv (kk H locs ls hP hD hS hl)
theorem dk_lconst (X : dk_X p s m args meth c cc nL own ret g A) {n : Fin 2} {v : Int64} (hv : Int64.ofNat (n : Nat) = v) (hdg : decode cc pc = .ok (.lconst n, 1))
    (kk : dk_J p l e R s m args below meth c g A Q nL cells slots (pc + 1) lv (.long v :: st) ws) : dk_J p l e R s m args below meth c g A Q nL cells slots pc lv (st) ws := fun H locs ls hP hD hS hl =>
  lv_lconst X.1 X.2.1 hdg hv (kk H locs ls hP hD hS hl)
theorem dk_iload_n (X : dk_X p s m args meth c cc nL own ret g A) {k : Fin 4} {i : Nat} {x : Int32} (j : Nat) (hi : (k : Nat) = i) (hj : lv[j]? = some (i, .int x)) (hdg : decode cc pc = .ok (.iload_n k, 1))
    (kk : dk_J p l e R s m args below meth c g A Q nL cells slots (pc + 1) lv (.int x :: st) ws) : dk_J p l e R s m args below meth c g A Q nL cells slots pc lv (st) ws := fun H locs ls hP hD hS hl =>
  lv_iload_n X.1 X.2.1 hdg hi (lv_at hl j hj) (kk H locs ls hP hD hS hl)
theorem dk_iload (X : dk_X p s m args meth c cc nL own ret g A) {i : Nat} {x : Int32} (j : Nat) (hj : lv[j]? = some (i, .int x)) (hdg : decode cc pc = .ok (.iload i, 2))
    (kk : dk_J p l e R s m args below meth c g A Q nL cells slots (pc + 2) lv (.int x :: st) ws) : dk_J p l e R s m args below meth c g A Q nL cells slots pc lv (st) ws := fun H locs ls hP hD hS hl =>
  lv_iload X.1 X.2.1 hdg (lv_at hl j hj) (kk H locs ls hP hD hS hl)
theorem dk_istore_n (X : dk_X p s m args meth c cc nL own ret g A) {k : Fin 4} {i : Nat} {x : Int32} {lv' : List (Nat × Value)} (hi : (k : Nat) = i) (hn : i < nL) (hv : (i, Value.int x) :: lv.filter (fun q => !(q.1 == i) && !(q.1 + 1 == i && q.2.category == 2)) = lv') (hdg : decode cc pc = .ok (.istore_n k, 1))
    (kk : dk_J p l e R s m args below meth c g A Q nL cells slots (pc + 1) lv' st ws) : dk_J p l e R s m args below meth c g A Q nL cells slots pc lv (.int x :: st) ws := fun H locs ls hP hD hS hl =>
  lv_istore_n X.1 X.2.1 hdg hi hl hn hv (fun ls' hl' => kk H locs ls' hP hD hS hl')
theorem dk_istore (X : dk_X p s m args meth c cc nL own ret g A) {i : Nat} {x : Int32} {lv' : List (Nat × Value)} (hn : i < nL) (hv : (i, Value.int x) :: lv.filter (fun q => !(q.1 == i) && !(q.1 + 1 == i && q.2.category == 2)) = lv') (hdg : decode cc pc = .ok (.istore i, 2))
    (kk : dk_J p l e R s m args below meth c g A Q nL cells slots (pc + 2) lv' st ws) : dk_J p l e R s m args below meth c g A Q nL cells slots pc lv (.int x :: st) ws := fun H locs ls hP hD hS hl =>
  lv_istore X.1 X.2.1 hdg hl hn hv (fun ls' hl' => kk H locs ls' hP hD hS hl')
theorem dk_lload_n (X : dk_X p s m args meth c cc nL own ret g A) {k : Fin 4} {i : Nat} {x : Int64} (j : Nat) (hi : (k : Nat) = i) (hj : lv[j]? = some (i, .long x)) (hdg : decode cc pc = .ok (.lload_n k, 1))
    (kk : dk_J p l e R s m args below meth c g A Q nL cells slots (pc + 1) lv (.long x :: st) ws) : dk_J p l e R s m args below meth c g A Q nL cells slots pc lv (st) ws := fun H locs ls hP hD hS hl =>
  lv_lload_n X.1 X.2.1 hdg hi (lv_at hl j hj) (kk H locs ls hP hD hS hl)
theorem dk_lload (X : dk_X p s m args meth c cc nL own ret g A) {i : Nat} {x : Int64} (j : Nat) (hj : lv[j]? = some (i, .long x)) (hdg : decode cc pc = .ok (.lload i, 2))
    (kk : dk_J p l e R s m args below meth c g A Q nL cells slots (pc + 2) lv (.long x :: st) ws) : dk_J p l e R s m args below meth c g A Q nL cells slots pc lv (st) ws := fun H locs ls hP hD hS hl =>
  lv_lload X.1 X.2.1 hdg (lv_at hl j hj) (kk H locs ls hP hD hS hl)
theorem dk_lstore_n (X : dk_X p s m args meth c cc nL own ret g A) {k : Fin 4} {i : Nat} {x : Int64} {lv' : List (Nat × Value)} (hi : (k : Nat) = i) (hn : i + 1 < nL) (hv : (i, Value.long x) :: lv.filter (fun q => !(q.1 == i) && (!(q.1 == i + 1) && !(q.1 + 1 == i && q.2.category == 2))) = lv') (hdg : decode cc pc = .ok (.lstore_n k, 1))
    (kk : dk_J p l e R s m args below meth c g A Q nL cells slots (pc + 1) lv' st ws) : dk_J p l e R s m args below meth c g A Q nL cells slots pc lv (.long x :: st) ws := fun H locs ls hP hD hS hl =>
  lv_lstore_n X.1 X.2.1 hdg hi hl hn hv (fun ls' hl' => kk H locs ls' hP hD hS hl')
theorem dk_lstore (X : dk_X p s m args meth c cc nL own ret g A) {i : Nat} {x : Int64} {lv' : List (Nat × Value)} (hn : i + 1 < nL) (hv : (i, Value.long x) :: lv.filter (fun q => !(q.1 == i) && (!(q.1 == i + 1) && !(q.1 + 1 == i && q.2.category == 2))) = lv') (hdg : decode cc pc = .ok (.lstore i, 2))
    (kk : dk_J p l e R s m args below meth c g A Q nL cells slots (pc + 2) lv' st ws) : dk_J p l e R s m args below meth c g A Q nL cells slots pc lv (.long x :: st) ws := fun H locs ls hP hD hS hl =>
  lv_lstore X.1 X.2.1 hdg hl hn hv (fun ls' hl' => kk H locs ls' hP hD hS hl')
theorem dk_aload_n (X : dk_X p s m args meth c cc nL own ret g A) {k : Fin 4} {i : Nat} {x : Nat} (j : Nat) (hi : (k : Nat) = i) (hj : lv[j]? = some (i, .ref x)) (hdg : decode cc pc = .ok (.aload_n k, 1))
    (kk : dk_J p l e R s m args below meth c g A Q nL cells slots (pc + 1) lv (.ref x :: st) ws) : dk_J p l e R s m args below meth c g A Q nL cells slots pc lv (st) ws := fun H locs ls hP hD hS hl =>
  lv_aload_n X.1 X.2.1 hdg hi (lv_at hl j hj) (kk H locs ls hP hD hS hl)
theorem dk_aload (X : dk_X p s m args meth c cc nL own ret g A) {i : Nat} {x : Nat} (j : Nat) (hj : lv[j]? = some (i, .ref x)) (hdg : decode cc pc = .ok (.aload i, 2))
    (kk : dk_J p l e R s m args below meth c g A Q nL cells slots (pc + 2) lv (.ref x :: st) ws) : dk_J p l e R s m args below meth c g A Q nL cells slots pc lv (st) ws := fun H locs ls hP hD hS hl =>
  lv_aload X.1 X.2.1 hdg (lv_at hl j hj) (kk H locs ls hP hD hS hl)
theorem dk_astore_n (X : dk_X p s m args meth c cc nL own ret g A) {k : Fin 4} {i : Nat} {x : Nat} {lv' : List (Nat × Value)} (hi : (k : Nat) = i) (hn : i < nL) (hv : (i, Value.ref x) :: lv.filter (fun q => !(q.1 == i) && !(q.1 + 1 == i && q.2.category == 2)) = lv') (hdg : decode cc pc = .ok (.astore_n k, 1))
    (kk : dk_J p l e R s m args below meth c g A Q nL cells slots (pc + 1) lv' st ws) : dk_J p l e R s m args below meth c g A Q nL cells slots pc lv (.ref x :: st) ws := fun H locs ls hP hD hS hl =>
  lv_astore_n X.1 X.2.1 hdg hi hl hn hv (fun ls' hl' => kk H locs ls' hP hD hS hl')
theorem dk_astore (X : dk_X p s m args meth c cc nL own ret g A) {i : Nat} {x : Nat} {lv' : List (Nat × Value)} (hn : i < nL) (hv : (i, Value.ref x) :: lv.filter (fun q => !(q.1 == i) && !(q.1 + 1 == i && q.2.category == 2)) = lv') (hdg : decode cc pc = .ok (.astore i, 2))
    (kk : dk_J p l e R s m args below meth c g A Q nL cells slots (pc + 2) lv' st ws) : dk_J p l e R s m args below meth c g A Q nL cells slots pc lv (.ref x :: st) ws := fun H locs ls hP hD hS hl =>
  lv_astore X.1 X.2.1 hdg hl hn hv (fun ls' hl' => kk H locs ls' hP hD hS hl')
theorem dk_iinc (X : dk_X p s m args meth c cc nL own ret g A) {i : Nat} {n : Int} {x v : Int32} {lv' : List (Nat × Value)} (j : Nat) (hj : lv[j]? = some (i, .int x)) (hx : x + Int32.ofInt n = v) (hn : i < nL) (hv : (i, Value.int v) :: lv.filter (fun q => !(q.1 == i) && !(q.1 + 1 == i && q.2.category == 2)) = lv') (hdg : decode cc pc = .ok (.iinc i n, 3))
    (kk : dk_J p l e R s m args below meth c g A Q nL cells slots (pc + 3) lv' st ws) : dk_J p l e R s m args below meth c g A Q nL cells slots pc lv st ws := fun H locs ls hP hD hS hl =>
  lv_iinc X.1 X.2.1 hdg hl hj hx hn hv (fun ls' hl' => kk H locs ls' hP hD hS hl')
theorem dk_iadd (X : dk_X p s m args meth c cc nL own ret g A) {x y : Int32} (hdg : decode cc pc = .ok (.iadd, 1))
    (kk : dk_J p l e R s m args below meth c g A Q nL cells slots (pc + 1) lv (.int (x + y) :: st) ws) : dk_J p l e R s m args below meth c g A Q nL cells slots pc lv (.int y :: .int x :: st) ws := fun H locs ls hP hD hS hl =>
  lv_iadd X.1 X.2.1 hdg (kk H locs ls hP hD hS hl)
theorem dk_isub (X : dk_X p s m args meth c cc nL own ret g A) {x y : Int32} (hdg : decode cc pc = .ok (.isub, 1))
    (kk : dk_J p l e R s m args below meth c g A Q nL cells slots (pc + 1) lv (.int (x - y) :: st) ws) : dk_J p l e R s m args below meth c g A Q nL cells slots pc lv (.int y :: .int x :: st) ws := fun H locs ls hP hD hS hl =>
  lv_isub X.1 X.2.1 hdg (kk H locs ls hP hD hS hl)
theorem dk_imul (X : dk_X p s m args meth c cc nL own ret g A) {x y : Int32} (hdg : decode cc pc = .ok (.imul, 1))
    (kk : dk_J p l e R s m args below meth c g A Q nL cells slots (pc + 1) lv (.int (x * y) :: st) ws) : dk_J p l e R s m args below meth c g A Q nL cells slots pc lv (.int y :: .int x :: st) ws := fun H locs ls hP hD hS hl =>
  lv_imul X.1 X.2.1 hdg (kk H locs ls hP hD hS hl)
theorem dk_iand (X : dk_X p s m args meth c cc nL own ret g A) {x y : Int32} (hdg : decode cc pc = .ok (.iand, 1))
    (kk : dk_J p l e R s m args below meth c g A Q nL cells slots (pc + 1) lv (.int (x &&& y) :: st) ws) : dk_J p l e R s m args below meth c g A Q nL cells slots pc lv (.int y :: .int x :: st) ws := fun H locs ls hP hD hS hl =>
  lv_iand X.1 X.2.1 hdg (kk H locs ls hP hD hS hl)
theorem dk_ior (X : dk_X p s m args meth c cc nL own ret g A) {x y : Int32} (hdg : decode cc pc = .ok (.ior, 1))
    (kk : dk_J p l e R s m args below meth c g A Q nL cells slots (pc + 1) lv (.int (x ||| y) :: st) ws) : dk_J p l e R s m args below meth c g A Q nL cells slots pc lv (.int y :: .int x :: st) ws := fun H locs ls hP hD hS hl =>
  lv_ior X.1 X.2.1 hdg (kk H locs ls hP hD hS hl)
theorem dk_ixor (X : dk_X p s m args meth c cc nL own ret g A) {x y : Int32} (hdg : decode cc pc = .ok (.ixor, 1))
    (kk : dk_J p l e R s m args below meth c g A Q nL cells slots (pc + 1) lv (.int (x ^^^ y) :: st) ws) : dk_J p l e R s m args below meth c g A Q nL cells slots pc lv (.int y :: .int x :: st) ws := fun H locs ls hP hD hS hl =>
  lv_ixor X.1 X.2.1 hdg (kk H locs ls hP hD hS hl)
theorem dk_ishl (X : dk_X p s m args meth c cc nL own ret g A) {x y : Int32} (hdg : decode cc pc = .ok (.ishl, 1))
    (kk : dk_J p l e R s m args below meth c g A Q nL cells slots (pc + 1) lv (.int (x <<< (y &&& 31)) :: st) ws) : dk_J p l e R s m args below meth c g A Q nL cells slots pc lv (.int y :: .int x :: st) ws := fun H locs ls hP hD hS hl =>
  lv_ishl X.1 X.2.1 hdg (kk H locs ls hP hD hS hl)
theorem dk_ishr (X : dk_X p s m args meth c cc nL own ret g A) {x y : Int32} (hdg : decode cc pc = .ok (.ishr, 1))
    (kk : dk_J p l e R s m args below meth c g A Q nL cells slots (pc + 1) lv (.int (x >>> (y &&& 31)) :: st) ws) : dk_J p l e R s m args below meth c g A Q nL cells slots pc lv (.int y :: .int x :: st) ws := fun H locs ls hP hD hS hl =>
  lv_ishr X.1 X.2.1 hdg (kk H locs ls hP hD hS hl)
theorem dk_idiv (X : dk_X p s m args meth c cc nL own ret g A) {x y : Int32} (hne : ¬ y = 0) (hdg : decode cc pc = .ok (.idiv, 1))
    (kk : dk_J p l e R s m args below meth c g A Q nL cells slots (pc + 1) lv (.int (x / y) :: st) ws) : dk_J p l e R s m args below meth c g A Q nL cells slots pc lv (.int y :: .int x :: st) ws := fun H locs ls hP hD hS hl =>
  lv_idiv X.1 X.2.1 hdg hne (kk H locs ls hP hD hS hl)
theorem dk_irem (X : dk_X p s m args meth c cc nL own ret g A) {x y : Int32} (hne : ¬ y = 0) (hdg : decode cc pc = .ok (.irem, 1))
    (kk : dk_J p l e R s m args below meth c g A Q nL cells slots (pc + 1) lv (.int (x - x / y * y) :: st) ws) : dk_J p l e R s m args below meth c g A Q nL cells slots pc lv (.int y :: .int x :: st) ws := fun H locs ls hP hD hS hl =>
  lv_irem X.1 X.2.1 hdg hne (kk H locs ls hP hD hS hl)
theorem dk_ineg (X : dk_X p s m args meth c cc nL own ret g A) {x : Int32} (hdg : decode cc pc = .ok (.ineg, 1))
    (kk : dk_J p l e R s m args below meth c g A Q nL cells slots (pc + 1) lv (.int (-x) :: st) ws) : dk_J p l e R s m args below meth c g A Q nL cells slots pc lv (.int x :: st) ws := fun H locs ls hP hD hS hl =>
  lv_ineg X.1 X.2.1 hdg (kk H locs ls hP hD hS hl)
theorem dk_ladd (X : dk_X p s m args meth c cc nL own ret g A) {x y : Int64} (hdg : decode cc pc = .ok (.ladd, 1))
    (kk : dk_J p l e R s m args below meth c g A Q nL cells slots (pc + 1) lv (.long (x + y) :: st) ws) : dk_J p l e R s m args below meth c g A Q nL cells slots pc lv (.long y :: .long x :: st) ws := fun H locs ls hP hD hS hl =>
  lv_ladd X.1 X.2.1 hdg (kk H locs ls hP hD hS hl)
theorem dk_lor (X : dk_X p s m args meth c cc nL own ret g A) {x y : Int64} (hdg : decode cc pc = .ok (.lor, 1))
    (kk : dk_J p l e R s m args below meth c g A Q nL cells slots (pc + 1) lv (.long (x ||| y) :: st) ws) : dk_J p l e R s m args below meth c g A Q nL cells slots pc lv (.long y :: .long x :: st) ws := fun H locs ls hP hD hS hl =>
  lv_lor X.1 X.2.1 hdg (kk H locs ls hP hD hS hl)
theorem dk_land (X : dk_X p s m args meth c cc nL own ret g A) {x y : Int64} (hdg : decode cc pc = .ok (.land, 1))
    (kk : dk_J p l e R s m args below meth c g A Q nL cells slots (pc + 1) lv (.long (x &&& y) :: st) ws) : dk_J p l e R s m args below meth c g A Q nL cells slots pc lv (.long y :: .long x :: st) ws := fun H locs ls hP hD hS hl =>
  lv_land X.1 X.2.1 hdg (kk H locs ls hP hD hS hl)
theorem dk_ldiv (X : dk_X p s m args meth c cc nL own ret g A) {x y : Int64} (hne : ¬ y = 0) (hdg : decode cc pc = .ok (.ldiv, 1))
    (kk : dk_J p l e R s m args below meth c g A Q nL cells slots (pc + 1) lv (.long (x / y) :: st) ws) : dk_J p l e R s m args below meth c g A Q nL cells slots pc lv (.long y :: .long x :: st) ws := fun H locs ls hP hD hS hl =>
  lv_ldiv X.1 X.2.1 hdg hne (kk H locs ls hP hD hS hl)
theorem dk_lrem (X : dk_X p s m args meth c cc nL own ret g A) {x y : Int64} (hne : ¬ y = 0) (hdg : decode cc pc = .ok (.lrem, 1))
    (kk : dk_J p l e R s m args below meth c g A Q nL cells slots (pc + 1) lv (.long (x - x / y * y) :: st) ws) : dk_J p l e R s m args below meth c g A Q nL cells slots pc lv (.long y :: .long x :: st) ws := fun H locs ls hP hD hS hl =>
  lv_lrem X.1 X.2.1 hdg hne (kk H locs ls hP hD hS hl)
theorem dk_lcmp (X : dk_X p s m args meth c cc nL own ret g A) {x y : Int64} (hdg : decode cc pc = .ok (.lcmp, 1))
    (kk : dk_J p l e R s m args below meth c g A Q nL cells slots (pc + 1) lv (.int (lg_cmp x y) :: st) ws) : dk_J p l e R s m args below meth c g A Q nL cells slots pc lv (.long y :: .long x :: st) ws := fun H locs ls hP hD hS hl =>
  W.lcmp X.1 X.2.1 hdg (kk H locs ls hP hD hS hl)
theorem dk_i2l (X : dk_X p s m args meth c cc nL own ret g A) {x : Int32} (hdg : decode cc pc = .ok (.i2l, 1))
    (kk : dk_J p l e R s m args below meth c g A Q nL cells slots (pc + 1) lv (.long x.toInt64 :: st) ws) : dk_J p l e R s m args below meth c g A Q nL cells slots pc lv (.int x :: st) ws := fun H locs ls hP hD hS hl =>
  lv_i2l X.1 X.2.1 hdg rfl (kk H locs ls hP hD hS hl)
theorem dk_l2i (X : dk_X p s m args meth c cc nL own ret g A) {x : Int64} (hdg : decode cc pc = .ok (.l2i, 1))
    (kk : dk_J p l e R s m args below meth c g A Q nL cells slots (pc + 1) lv (.int x.toInt32 :: st) ws) : dk_J p l e R s m args below meth c g A Q nL cells slots pc lv (.long x :: st) ws := fun H locs ls hP hD hS hl =>
  lv_l2i X.1 X.2.1 hdg rfl (kk H locs ls hP hD hS hl)
theorem dk_i2b (X : dk_X p s m args meth c cc nL own ret g A) {x : Int32} (hdg : decode cc pc = .ok (.i2b, 1))
    (kk : dk_J p l e R s m args below meth c g A Q nL cells slots (pc + 1) lv (.int x.toInt8.toInt32 :: st) ws) : dk_J p l e R s m args below meth c g A Q nL cells slots pc lv (.int x :: st) ws := fun H locs ls hP hD hS hl =>
  lv_i2b X.1 X.2.1 hdg rfl (kk H locs ls hP hD hS hl)
theorem dk_i2s (X : dk_X p s m args meth c cc nL own ret g A) {x : Int32} (hdg : decode cc pc = .ok (.i2s, 1))
    (kk : dk_J p l e R s m args below meth c g A Q nL cells slots (pc + 1) lv (.int x.toInt16.toInt32 :: st) ws) : dk_J p l e R s m args below meth c g A Q nL cells slots pc lv (.int x :: st) ws := fun H locs ls hP hD hS hl =>
  lv_i2s X.1 X.2.1 hdg rfl (kk H locs ls hP hD hS hl)
theorem dk_lshl (X : dk_X p s m args meth c cc nL own ret g A) {x : Int64} {y : Int32} (hdg : decode cc pc = .ok (.lshl, 1))
    (kk : dk_J p l e R s m args below meth c g A Q nL cells slots (pc + 1) lv (.long (x <<< (y.toInt64 &&& 63)) :: st) ws) : dk_J p l e R s m args below meth c g A Q nL cells slots pc lv (.int y :: .long x :: st) ws := fun H locs ls hP hD hS hl =>
  lv_lshl X.1 X.2.1 hdg rfl (kk H locs ls hP hD hS hl)
theorem dk_lshr (X : dk_X p s m args meth c cc nL own ret g A) {x : Int64} {y : Int32} (hdg : decode cc pc = .ok (.lshr, 1))
    (kk : dk_J p l e R s m args below meth c g A Q nL cells slots (pc + 1) lv (.long (x >>> (y.toInt64 &&& 63)) :: st) ws) : dk_J p l e R s m args below meth c g A Q nL cells slots pc lv (.int y :: .long x :: st) ws := fun H locs ls hP hD hS hl =>
  lv_lshr X.1 X.2.1 hdg rfl (kk H locs ls hP hD hS hl)
theorem dk_dup (X : dk_X p s m args meth c cc nL own ret g A) {va : Value} (hva : va.category = 1) (hdg : decode cc pc = .ok (.dup, 1))
    (kk : dk_J p l e R s m args below meth c g A Q nL cells slots (pc + 1) lv (va :: va :: st) ws) : dk_J p l e R s m args below meth c g A Q nL cells slots pc lv (va :: st) ws := fun H locs ls hP hD hS hl =>
  lv_dup X.1 X.2.1 hdg hva (kk H locs ls hP hD hS hl)
theorem dk_pop (X : dk_X p s m args meth c cc nL own ret g A) {va : Value} (hva : va.category = 1) (hdg : decode cc pc = .ok (.pop, 1))
    (kk : dk_J p l e R s m args below meth c g A Q nL cells slots (pc + 1) lv (st) ws) : dk_J p l e R s m args below meth c g A Q nL cells slots pc lv (va :: st) ws := fun H locs ls hP hD hS hl =>
  lv_pop X.1 X.2.1 hdg hva (kk H locs ls hP hD hS hl)
theorem dk_dup_x1 (X : dk_X p s m args meth c cc nL own ret g A) {va vb : Value} (hva : va.category = 1) (hvb : vb.category = 1) (hdg : decode cc pc = .ok (.dup_x1, 1))
    (kk : dk_J p l e R s m args below meth c g A Q nL cells slots (pc + 1) lv (va :: vb :: va :: st) ws) : dk_J p l e R s m args below meth c g A Q nL cells slots pc lv (va :: vb :: st) ws := fun H locs ls hP hD hS hl =>
  lv_dup_x1 X.1 X.2.1 hdg hva hvb (kk H locs ls hP hD hS hl)
theorem dk_goto (X : dk_X p s m args meth c cc nL own ret g A) {off : Int} {tgt : Nat} (ht : (pc : Int) + off = (tgt : Int)) (hdg : decode cc pc = .ok (.goto off, 3))
    (kk : dk_J p l e R s m args below meth c g A Q nL cells slots tgt lv st ws) : dk_J p l e R s m args below meth c g A Q nL cells slots pc lv st ws := fun H locs ls hP hD hS hl =>
  lv_goto X.1 X.2.1 hdg ht (kk H locs ls hP hD hS hl)
theorem dk_if_eq {β : Type} {a b : Option β} {res : β} (X : dk_X p s m args meth c cc nL own ret g A) {x : Int32} {off : Int} {tgt : Nat} (ht : (pc : Int) + off = (tgt : Int)) (hdg : decode cc pc = .ok (.ifCond .eq off, 3)) (hF : (if x = 0 then a else b) = some res)
    (kt : a = some res → dk_J p l e R s m args below meth c g A Q nL cells slots tgt lv st ws) (kf : b = some res → dk_J p l e R s m args below meth c g A Q nL cells slots (pc + 3) lv st ws) : dk_J p l e R s m args below meth c g A Q nL cells slots pc lv (.int x :: st) ws :=
  dk_if hF (fun hc hF H locs ls hP hD hS hl => lv_if_eq X.1 X.2.1 hdg ht (fun _ => kt hF H locs ls hP hD hS hl) (fun h => absurd hc (by exact fun z => h z))) (fun hc hF H locs ls hP hD hS hl => lv_if_eq X.1 X.2.1 hdg ht (fun h => absurd h hc) (fun _ => kf hF H locs ls hP hD hS hl))
theorem dk_icmp_eq {β : Type} {a b : Option β} {res : β} (X : dk_X p s m args meth c cc nL own ret g A) {x y : Int32} {off : Int} {tgt : Nat} (ht : (pc : Int) + off = (tgt : Int)) (hdg : decode cc pc = .ok (.if_icmp .eq off, 3)) (hF : (if x = y then a else b) = some res)
    (kt : a = some res → dk_J p l e R s m args below meth c g A Q nL cells slots tgt lv st ws) (kf : b = some res → dk_J p l e R s m args below meth c g A Q nL cells slots (pc + 3) lv st ws) : dk_J p l e R s m args below meth c g A Q nL cells slots pc lv (.int y :: .int x :: st) ws :=
  dk_if hF (fun hc hF H locs ls hP hD hS hl => lv_icmp_eq X.1 X.2.1 hdg ht (fun _ => kt hF H locs ls hP hD hS hl) (fun h => absurd hc (by exact fun z => h z))) (fun hc hF H locs ls hP hD hS hl => lv_icmp_eq X.1 X.2.1 hdg ht (fun h => absurd h hc) (fun _ => kf hF H locs ls hP hD hS hl))
theorem dk_if_ne {β : Type} {a b : Option β} {res : β} (X : dk_X p s m args meth c cc nL own ret g A) {x : Int32} {off : Int} {tgt : Nat} (ht : (pc : Int) + off = (tgt : Int)) (hdg : decode cc pc = .ok (.ifCond .ne off, 3)) (hF : (if ¬ x = 0 then a else b) = some res)
    (kt : a = some res → dk_J p l e R s m args below meth c g A Q nL cells slots tgt lv st ws) (kf : b = some res → dk_J p l e R s m args below meth c g A Q nL cells slots (pc + 3) lv st ws) : dk_J p l e R s m args below meth c g A Q nL cells slots pc lv (.int x :: st) ws :=
  dk_if hF (fun hc hF H locs ls hP hD hS hl => lv_if_ne X.1 X.2.1 hdg ht (fun _ => kt hF H locs ls hP hD hS hl) (fun h => absurd h hc)) (fun hc hF H locs ls hP hD hS hl => lv_if_ne X.1 X.2.1 hdg ht (fun h => absurd h hc) (fun _ => kf hF H locs ls hP hD hS hl))
theorem dk_icmp_ne {β : Type} {a b : Option β} {res : β} (X : dk_X p s m args meth c cc nL own ret g A) {x y : Int32} {off : Int} {tgt : Nat} (ht : (pc : Int) + off = (tgt : Int)) (hdg : decode cc pc = .ok (.if_icmp .ne off, 3)) (hF : (if ¬ x = y then a else b) = some res)
    (kt : a = some res → dk_J p l e R s m args below meth c g A Q nL cells slots tgt lv st ws) (kf : b = some res → dk_J p l e R s m args below meth c g A Q nL cells slots (pc + 3) lv st ws) : dk_J p l e R s m args below meth c g A Q nL cells slots pc lv (.int y :: .int x :: st) ws :=
  dk_if hF (fun hc hF H locs ls hP hD hS hl => lv_icmp_ne X.1 X.2.1 hdg ht (fun _ => kt hF H locs ls hP hD hS hl) (fun h => absurd h hc)) (fun hc hF H locs ls hP hD hS hl => lv_icmp_ne X.1 X.2.1 hdg ht (fun h => absurd h hc) (fun _ => kf hF H locs ls hP hD hS hl))
theorem dk_if_lt {β : Type} {a b : Option β} {res : β} (X : dk_X p s m args meth c cc nL own ret g A) {x : Int32} {off : Int} {tgt : Nat} (ht : (pc : Int) + off = (tgt : Int)) (hdg : decode cc pc = .ok (.ifCond .lt off, 3)) (hF : (if x < 0 then a else b) = some res)
    (kt : a = some res → dk_J p l e R s m args below meth c g A Q nL cells slots tgt lv st ws) (kf : b = some res → dk_J p l e R s m args below meth c g A Q nL cells slots (pc + 3) lv st ws) : dk_J p l e R s m args below meth c g A Q nL cells slots pc lv (.int x :: st) ws :=
  dk_if hF (fun hc hF H locs ls hP hD hS hl => lv_if_lt X.1 X.2.1 hdg ht (fun _ => kt hF H locs ls hP hD hS hl) (fun h => absurd hc (by exact fun z => h z))) (fun hc hF H locs ls hP hD hS hl => lv_if_lt X.1 X.2.1 hdg ht (fun h => absurd h hc) (fun _ => kf hF H locs ls hP hD hS hl))
theorem dk_icmp_lt {β : Type} {a b : Option β} {res : β} (X : dk_X p s m args meth c cc nL own ret g A) {x y : Int32} {off : Int} {tgt : Nat} (ht : (pc : Int) + off = (tgt : Int)) (hdg : decode cc pc = .ok (.if_icmp .lt off, 3)) (hF : (if x < y then a else b) = some res)
    (kt : a = some res → dk_J p l e R s m args below meth c g A Q nL cells slots tgt lv st ws) (kf : b = some res → dk_J p l e R s m args below meth c g A Q nL cells slots (pc + 3) lv st ws) : dk_J p l e R s m args below meth c g A Q nL cells slots pc lv (.int y :: .int x :: st) ws :=
  dk_if hF (fun hc hF H locs ls hP hD hS hl => lv_icmp_lt X.1 X.2.1 hdg ht (fun _ => kt hF H locs ls hP hD hS hl) (fun h => absurd hc (by exact fun z => h z))) (fun hc hF H locs ls hP hD hS hl => lv_icmp_lt X.1 X.2.1 hdg ht (fun h => absurd h hc) (fun _ => kf hF H locs ls hP hD hS hl))
theorem dk_if_ge {β : Type} {a b : Option β} {res : β} (X : dk_X p s m args meth c cc nL own ret g A) {x : Int32} {off : Int} {tgt : Nat} (ht : (pc : Int) + off = (tgt : Int)) (hdg : decode cc pc = .ok (.ifCond .ge off, 3)) (hF : (if 0 ≤ x then a else b) = some res)
    (kt : a = some res → dk_J p l e R s m args below meth c g A Q nL cells slots tgt lv st ws) (kf : b = some res → dk_J p l e R s m args below meth c g A Q nL cells slots (pc + 3) lv st ws) : dk_J p l e R s m args below meth c g A Q nL cells slots pc lv (.int x :: st) ws :=
  dk_if hF (fun hc hF H locs ls hP hD hS hl => lv_if_ge X.1 X.2.1 hdg ht (fun _ => kt hF H locs ls hP hD hS hl) (fun h => absurd hc (by exact fun z => h z))) (fun hc hF H locs ls hP hD hS hl => lv_if_ge X.1 X.2.1 hdg ht (fun h => absurd h hc) (fun _ => kf hF H locs ls hP hD hS hl))
theorem dk_icmp_ge {β : Type} {a b : Option β} {res : β} (X : dk_X p s m args meth c cc nL own ret g A) {x y : Int32} {off : Int} {tgt : Nat} (ht : (pc : Int) + off = (tgt : Int)) (hdg : decode cc pc = .ok (.if_icmp .ge off, 3)) (hF : (if y ≤ x then a else b) = some res)
    (kt : a = some res → dk_J p l e R s m args below meth c g A Q nL cells slots tgt lv st ws) (kf : b = some res → dk_J p l e R s m args below meth c g A Q nL cells slots (pc + 3) lv st ws) : dk_J p l e R s m args below meth c g A Q nL cells slots pc lv (.int y :: .int x :: st) ws :=
  dk_if hF (fun hc hF H locs ls hP hD hS hl => lv_icmp_ge X.1 X.2.1 hdg ht (fun _ => kt hF H locs ls hP hD hS hl) (fun h => absurd hc (by exact fun z => h z))) (fun hc hF H locs ls hP hD hS hl => lv_icmp_ge X.1 X.2.1 hdg ht (fun h => absurd h hc) (fun _ => kf hF H locs ls hP hD hS hl))
theorem dk_if_gt {β : Type} {a b : Option β} {res : β} (X : dk_X p s m args meth c cc nL own ret g A) {x : Int32} {off : Int} {tgt : Nat} (ht : (pc : Int) + off = (tgt : Int)) (hdg : decode cc pc = .ok (.ifCond .gt off, 3)) (hF : (if 0 < x then a else b) = some res)
    (kt : a = some res → dk_J p l e R s m args below meth c g A Q nL cells slots tgt lv st ws) (kf : b = some res → dk_J p l e R s m args below meth c g A Q nL cells slots (pc + 3) lv st ws) : dk_J p l e R s m args below meth c g A Q nL cells slots pc lv (.int x :: st) ws :=
  dk_if hF (fun hc hF H locs ls hP hD hS hl => lv_if_gt X.1 X.2.1 hdg ht (fun _ => kt hF H locs ls hP hD hS hl) (fun h => absurd hc (by exact fun z => h z))) (fun hc hF H locs ls hP hD hS hl => lv_if_gt X.1 X.2.1 hdg ht (fun h => absurd h hc) (fun _ => kf hF H locs ls hP hD hS hl))
theorem dk_icmp_gt {β : Type} {a b : Option β} {res : β} (X : dk_X p s m args meth c cc nL own ret g A) {x y : Int32} {off : Int} {tgt : Nat} (ht : (pc : Int) + off = (tgt : Int)) (hdg : decode cc pc = .ok (.if_icmp .gt off, 3)) (hF : (if y < x then a else b) = some res)
    (kt : a = some res → dk_J p l e R s m args below meth c g A Q nL cells slots tgt lv st ws) (kf : b = some res → dk_J p l e R s m args below meth c g A Q nL cells slots (pc + 3) lv st ws) : dk_J p l e R s m args below meth c g A Q nL cells slots pc lv (.int y :: .int x :: st) ws :=
  dk_if hF (fun hc hF H locs ls hP hD hS hl => lv_icmp_gt X.1 X.2.1 hdg ht (fun _ => kt hF H locs ls hP hD hS hl) (fun h => absurd hc (by exact fun z => h z))) (fun hc hF H locs ls hP hD hS hl => lv_icmp_gt X.1 X.2.1 hdg ht (fun h => absurd h hc) (fun _ => kf hF H locs ls hP hD hS hl))
theorem dk_if_le {β : Type} {a b : Option β} {res : β} (X : dk_X p s m args meth c cc nL own ret g A) {x : Int32} {off : Int} {tgt : Nat} (ht : (pc : Int) + off = (tgt : Int)) (hdg : decode cc pc = .ok (.ifCond .le off, 3)) (hF : (if x ≤ 0 then a else b) = some res)
    (kt : a = some res → dk_J p l e R s m args below meth c g A Q nL cells slots tgt lv st ws) (kf : b = some res → dk_J p l e R s m args below meth c g A Q nL cells slots (pc + 3) lv st ws) : dk_J p l e R s m args below meth c g A Q nL cells slots pc lv (.int x :: st) ws :=
  dk_if hF (fun hc hF H locs ls hP hD hS hl => lv_if_le X.1 X.2.1 hdg ht (fun _ => kt hF H locs ls hP hD hS hl) (fun h => absurd hc (by exact fun z => h z))) (fun hc hF H locs ls hP hD hS hl => lv_if_le X.1 X.2.1 hdg ht (fun h => absurd h hc) (fun _ => kf hF H locs ls hP hD hS hl))
theorem dk_icmp_le {β : Type} {a b : Option β} {res : β} (X : dk_X p s m args meth c cc nL own ret g A) {x y : Int32} {off : Int} {tgt : Nat} (ht : (pc : Int) + off = (tgt : Int)) (hdg : decode cc pc = .ok (.if_icmp .le off, 3)) (hF : (if x ≤ y then a else b) = some res)
    (kt : a = some res → dk_J p l e R s m args below meth c g A Q nL cells slots tgt lv st ws) (kf : b = some res → dk_J p l e R s m args below meth c g A Q nL cells slots (pc + 3) lv st ws) : dk_J p l e R s m args below meth c g A Q nL cells slots pc lv (.int y :: .int x :: st) ws :=
  dk_if hF (fun hc hF H locs ls hP hD hS hl => lv_icmp_le X.1 X.2.1 hdg ht (fun _ => kt hF H locs ls hP hD hS hl) (fun h => absurd hc (by exact fun z => h z))) (fun hc hF H locs ls hP hD hS hl => lv_icmp_le X.1 X.2.1 hdg ht (fun h => absurd h hc) (fun _ => kf hF H locs ls hP hD hS hl))
theorem dk_sub {lv' : List (Nat × Value)} (ks : List Nat) (hk : lv_pick lv ks = lv') (k : dk_J p l e R s m args below meth c g A Q nL cells slots pc lv' st ws) : dk_J p l e R s m args below meth c g A Q nL cells slots pc lv st ws := fun H locs ls hP hD hS hl => k H locs ls hP hD hS (lv_sub hl ks hk)
theorem dk_get (X : dk_X p s m args meth c cc nL own ret g A) {C : String} {T : u_T} {N ci : Nat} {ty : Nat → FieldType} (q : dk_Cl C T N ci ty) {a index : Nat} {fs : List Value} {v : Value} (q0 k : Nat) (hk : k < N) (he : ws[q0]? = some (a, .inr (ci, fs))) (hv : fs[k]? = some v) (hlk : Cond.fieldLink own index (T k).1 (T k).2.1 (T k).2.2.1 ∈ dk_tb) (hdg : decode cc pc = .ok (.getfield index, 3))
    (kk : dk_J p l e R s m args below meth c g A Q nL cells slots (pc + 3) lv (v :: st) ws) : dk_J p l e R s m args below meth c g A Q nL cells slots pc lv (.ref a :: st) ws := fun H locs ls hP hD hS hl =>
  va_get X.1 X.2.1 X.2.2.2.2.1 q.1 X.2.2.2.1 X.2.2.2.2.2.1 hP q0 he q.2.1 k hk (X.2.2.2.2.1 _ hlk) (fun _ h => h) hv hdg (kk H locs ls hP hD hS hl)
theorem dk_put (X : dk_X p s m args meth c cc nL own ret g A) {C : String} {T : u_T} {N ci : Nat} {ty : Nat → FieldType} (q : dk_Cl C T N ci ty) {a index : Nat} {fs : List Value} {v : Value} {ty' : FieldType} {ws' : va_W} (q0 k : Nat) (hk : k < N) (he : ws[q0]? = some (a, .inr (ci, fs))) (hlk : Cond.fieldLink own index (T k).1 (T k).2.1 (T k).2.2.1 ∈ dk_tb) (hfin : (T k).2.2.2 = false) (hty : ty k = ty') (hn : narrow ty' v = v) (hfit : fits ty' v = true) (hlen : k < fs.length) (hset : ws.set q0 (a, .inr (ci, fs.set k v)) = ws') (hdg : decode cc pc = .ok (.putfield index, 3))
    (kk : dk_J p l e R s m args below meth c g A Q nL cells slots (pc + 3) lv st ws') : dk_J p l e R s m args below meth c g A Q nL cells slots pc lv (v :: .ref a :: st) ws := fun H locs ls hP hD hS hl =>
  va_put X.1 X.2.1 X.2.2.2.2.1 q.1 ty q.2.2.1 q.2.2.2 X.2.2.2.1 X.2.2.2.2.2.1 hP hD hS q0 he q.2.1 k hk (X.2.2.2.2.1 _ hlk) (fun _ h => h) hfin (hty ▸ q.2.2.1 k hk) hn hfit hlen hdg (fun H1 locs1 hP1 hD1 hS1 => kk H1 locs1 ls (hset ▸ hP1) (hset ▸ hD1) hS1 hl)
/-- an int field of a told world -/
theorem dk_puti {β : Type} {res : β} (X : dk_X p s m args meth c cc nL own ret g A) {C : String} {T : u_T} {N ci : Nat} {ty : Nat → FieldType} (q : dk_Cl C T N ci ty) {a index key : Nat} {fs : List Value} {x : Int32} {wd : dk_S → va_W} {S : dk_S} {K : dk_S → Option β} (q0 k : Nat) (hk : k < N) (he : (wd S)[q0]? = some (a, .inr (ci, fs))) (hlk : Cond.fieldLink own index (T k).1 (T k).2.1 (T k).2.2.1 ∈ dk_tb) (hfin : (T k).2.2.2 = false) (hty : ty k = .int) (hlen : k < fs.length) (hset : (wd S).set q0 (a, .inr (ci, fs.set k (.int x))) = wd (dk_U S key 0 x)) (hdg : decode cc pc = .ok (.putfield index, 3)) (hF : dk_p S key x K = some res)
    (kk : ∀ S' : dk_S, K S' = some res → dk_J p l e R s m args below meth c g A Q nL cells slots (pc + 3) lv st (wd S')) : dk_J p l e R s m args below meth c g A Q nL cells slots pc lv (.int x :: .ref a :: st) (wd S) :=
  dk_put X q q0 k hk he hlk hfin hty rfl rfl hlen hset hdg (kk _ hF)
theorem dk_putz {β : Type} {res : β} (X : dk_X p s m args meth c cc nL own ret g A) {C : String} {T : u_T} {N ci : Nat} {ty : Nat → FieldType} (q : dk_Cl C T N ci ty) {a index key : Nat} {fs : List Value} {x : Int32} {wd : dk_S → va_W} {S : dk_S} {K : dk_S → Option β} (q0 k : Nat) (hk : k < N) (he : (wd S)[q0]? = some (a, .inr (ci, fs))) (hlk : Cond.fieldLink own index (T k).1 (T k).2.1 (T k).2.2.1 ∈ dk_tb) (hfin : (T k).2.2.2 = false) (hty : ty k = .boolean) (hlen : k < fs.length) (hset : (wd S).set q0 (a, .inr (ci, fs.set k (.int x))) = wd (dk_U S key 0 x)) (hdg : decode cc pc = .ok (.putfield index, 3)) (hF : dk_b x (dk_p S key x K) = some res)
    (kk : ∀ S' : dk_S, K S' = some res → dk_J p l e R s m args below meth c g A Q nL cells slots (pc + 3) lv st (wd S')) : dk_J p l e R s m args below meth c g A Q nL cells slots pc lv (.int x :: .ref a :: st) (wd S) := by
  obtain ⟨h, hF⟩ := dk_b_out hF
  exact dk_put X q q0 k hk he hlk hfin hty (by rcases h with rfl | rfl <;> rfl) (by rcases h with rfl | rfl <;> rfl) hlen hset hdg (kk _ hF)
theorem dk_iald {β : Type} {res : β} {K : Int32 → Option β} (X : dk_X p s m args meth c cc nL own ret g A) {a n : Nat} {f : Nat → Int32} {i : Int32} (q0 : Nat) (ha : ws[q0]? = some (a, .inl (g.2.1 0, n, .inl f))) (hdg : decode cc pc = .ok (.iaload, 1)) (hF : dk_r n f i K = some res)
    (kk : ∀ v : Int32, K v = some res → dk_J p l e R s m args below meth c g A Q nL cells slots (pc + 1) lv (.int v :: st) ws) : dk_J p l e R s m args below meth c g A Q nL cells slots pc lv (.int i :: .ref a :: st) ws := fun H locs ls hP hD hS hl =>
  va_iald X.1 X.2.1 X.2.2.2.2.2.1 hP q0 0 ha rfl (dk_r_out hF).1 hdg (kk _ (dk_r_out hF).2 H locs ls hP hD hS hl)
theorem dk_zald {β : Type} {res : β} {K : Int32 → Option β} (X : dk_X p s m args meth c cc nL own ret g A) {a n : Nat} {f : Nat → Int32} {i : Int32} (q0 : Nat) (ha : ws[q0]? = some (a, .inl (g.2.1 1, n, .inl f))) (hdg : decode cc pc = .ok (.baload, 1)) (hF : dk_r n f i K = some res)
    (kk : ∀ v : Int32, K v = some res → dk_J p l e R s m args below meth c g A Q nL cells slots (pc + 1) lv (.int v :: st) ws) : dk_J p l e R s m args below meth c g A Q nL cells slots pc lv (.int i :: .ref a :: st) ws := fun H locs ls hP hD hS hl =>
  va_zald X.1 X.2.1 X.2.2.2.2.2.1 hP q0 1 ha rfl (dk_r_out hF).1 hdg (kk _ (dk_r_out hF).2 H locs ls hP hD hS hl)
theorem dk_bald {β : Type} {res : β} {K : Int32 → Option β} (X : dk_X p s m args meth c cc nL own ret g A) {a n : Nat} {f : Nat → Int32} {i : Int32} (q0 : Nat) (ha : ws[q0]? = some (a, .inl (g.2.1 2, n, .inl f))) (hdg : decode cc pc = .ok (.baload, 1)) (hF : dk_r n f i K = some res)
    (kk : ∀ v : Int32, K v = some res → dk_J p l e R s m args below meth c g A Q nL cells slots (pc + 1) lv (.int v :: st) ws) : dk_J p l e R s m args below meth c g A Q nL cells slots pc lv (.int i :: .ref a :: st) ws := fun H locs ls hP hD hS hl =>
  va_bald X.1 X.2.1 X.2.2.2.2.2.1 hP q0 2 ha rfl (dk_r_out hF).1 hdg (kk _ (dk_r_out hF).2 H locs ls hP hD hS hl)
theorem dk_lald {β : Type} {res : β} {K : Int64 → Option β} (X : dk_X p s m args meth c cc nL own ret g A) {a n : Nat} {f : Nat → Int64} {i : Int32} (q0 : Nat) (ha : ws[q0]? = some (a, .inl (g.2.1 3, n, .inr (.inl f)))) (hdg : decode cc pc = .ok (.laload, 1)) (hF : dk_rl n f i K = some res)
    (kk : ∀ v : Int64, K v = some res → dk_J p l e R s m args below meth c g A Q nL cells slots (pc + 1) lv (.long v :: st) ws) : dk_J p l e R s m args below meth c g A Q nL cells slots pc lv (.int i :: .ref a :: st) ws := fun H locs ls hP hD hS hl =>
  va_lald X.1 X.2.1 X.2.2.2.2.2.1 hP q0 3 ha rfl (dk_rl_out hF).1 hdg (kk _ (dk_rl_out hF).2 H locs ls hP hD hS hl)
theorem dk_alen (X : dk_X p s m args meth c cc nL own ret g A) {a : Nat} {cA : ClassId} {x : vp_A} {ty : FieldType} (q0 t0 : Nat) (ha : ws[q0]? = some (a, .inl (cA, x))) (ht : (dk_ty g)[t0]? = some (cA, ty)) (hdg : decode cc pc = .ok (.arraylength, 1))
    (kk : dk_J p l e R s m args below meth c g A Q nL cells slots (pc + 1) lv (.int (nI x.1) :: st) ws) : dk_J p l e R s m args below meth c g A Q nL cells slots pc lv (.ref a :: st) ws := fun H locs ls hP hD hS hl =>
  va_alen X.1 X.2.1 X.2.2.2.2.2.1 hP q0 t0 ha ht (v := nI x.1) rfl hdg (kk H locs ls hP hD hS hl)
theorem dk_iast {β : Type} {res : β} {K : dk_S → Option β} {wd : dk_S → va_W} {S : dk_S} (X : dk_X p s m args meth c cc nL own ret g A) {a n key : Nat} {f : Nat → Int32} {i x : Int32} (q0 : Nat) (ha : (wd S)[q0]? = some (a, .inl (g.2.1 0, n, .inl f))) (hset : (wd S).set q0 (a, .inl (g.2.1 0, n, .inl (upd f i.toNatClampNeg x))) = wd (dk_U S key i.toNatClampNeg x)) (hdg : decode cc pc = .ok (.iastore, 1)) (hF : dk_w S key n i x K = some res)
    (kk : ∀ S' : dk_S, K S' = some res → dk_J p l e R s m args below meth c g A Q nL cells slots (pc + 1) lv st (wd S')) : dk_J p l e R s m args below meth c g A Q nL cells slots pc lv (.int x :: .int i :: .ref a :: st) (wd S) := fun H locs ls hP hD hS hl =>
  va_iast X.1 X.2.1 X.2.2.2.2.2.1 hP hD hS q0 0 ha rfl (dk_w_out hF).1 hdg (fun H1 locs1 hP1 hD1 hS1 => kk _ (dk_w_out hF).2 H1 locs1 ls (hset ▸ hP1) (hset ▸ hD1) hS1 hl)
theorem dk_zast {β : Type} {res : β} {K : dk_S → Option β} {wd : dk_S → va_W} {S : dk_S} (X : dk_X p s m args meth c cc nL own ret g A) {a n key : Nat} {f : Nat → Int32} {i x : Int32} (q0 : Nat) (ha : (wd S)[q0]? = some (a, .inl (g.2.1 1, n, .inl f))) (hset : (wd S).set q0 (a, .inl (g.2.1 1, n, .inl (upd f i.toNatClampNeg (vp_nar .boolean x)))) = wd (dk_U S key i.toNatClampNeg (vp_nar .boolean x))) (hdg : decode cc pc = .ok (.bastore, 1)) (hF : dk_w S key n i (vp_nar .boolean x) K = some res)
    (kk : ∀ S' : dk_S, K S' = some res → dk_J p l e R s m args below meth c g A Q nL cells slots (pc + 1) lv st (wd S')) : dk_J p l e R s m args below meth c g A Q nL cells slots pc lv (.int x :: .int i :: .ref a :: st) (wd S) := fun H locs ls hP hD hS hl =>
  va_zast X.1 X.2.1 X.2.2.2.2.2.1 hP hD hS q0 1 ha rfl (dk_w_out hF).1 hdg (fun H1 locs1 hP1 hD1 hS1 => kk _ (dk_w_out hF).2 H1 locs1 ls (hset ▸ hP1) (hset ▸ hD1) hS1 hl)
theorem dk_bast {β : Type} {res : β} {K : dk_S → Option β} {wd : dk_S → va_W} {S : dk_S} (X : dk_X p s m args meth c cc nL own ret g A) {a n key : Nat} {f : Nat → Int32} {i x : Int32} (q0 : Nat) (ha : (wd S)[q0]? = some (a, .inl (g.2.1 2, n, .inl f))) (hset : (wd S).set q0 (a, .inl (g.2.1 2, n, .inl (upd f i.toNatClampNeg (vp_nar .byte x)))) = wd (dk_U S key i.toNatClampNeg (vp_nar .byte x))) (hdg : decode cc pc = .ok (.bastore, 1)) (hF : dk_w S key n i (vp_nar .byte x) K = some res)
    (kk : ∀ S' : dk_S, K S' = some res → dk_J p l e R s m args below meth c g A Q nL cells slots (pc + 1) lv st (wd S')) : dk_J p l e R s m args below meth c g A Q nL cells slots pc lv (.int x :: .int i :: .ref a :: st) (wd S) := fun H locs ls hP hD hS hl =>
  va_bast X.1 X.2.1 X.2.2.2.2.2.1 hP hD hS q0 2 ha rfl (dk_w_out hF).1 hdg (fun H1 locs1 hP1 hD1 hS1 => kk _ (dk_w_out hF).2 H1 locs1 ls (hset ▸ hP1) (hset ▸ hD1) hS1 hl)
theorem dk_tsOut (X : dk_X p s m args meth c cc nL own ret g A) {dflt lo hi : Int} {offs : Array Int} {len tgt : Nat} {x : Int32} (hdg : decode cc pc = .ok (.tableswitch dflt lo hi offs, len)) (h : x.toInt < lo ∨ hi < x.toInt) (ht : (pc : Int) + dflt = (tgt : Int))
    (kk : dk_J p l e R s m args below meth c g A Q nL cells slots tgt lv st ws) : dk_J p l e R s m args below meth c g A Q nL cells slots pc lv (.int x :: st) ws := fun H locs ls hP hD hS hl =>
  lv_tableOut X.1 X.2.1 hdg h ht (kk H locs ls hP hD hS hl)
theorem dk_tsIn (X : dk_X p s m args meth c cc nL own ret g A) {dflt lo hi : Int} {offs : Array Int} {len tgt : Nat} {x : Int32} {off v : Int} (hdg : decode cc pc = .ok (.tableswitch dflt lo hi offs, len)) (hv : x.toInt = v) (h1 : ¬ v < lo) (h2 : ¬ hi < v) (ho : offs[(v - lo).toNat]? = some off) (ht : (pc : Int) + off = (tgt : Int))
    (kk : dk_J p l e R s m args below meth c g A Q nL cells slots tgt lv st ws) : dk_J p l e R s m args below meth c g A Q nL cells slots pc lv (.int x :: st) ws := fun H locs ls hP hD hS hl =>
  lv_tableIn X.1 X.2.1 hdg (by rw [hv]; exact h1) (by rw [hv]; exact h2) (by rw [hv]; exact ho) ht (kk H locs ls hP hD hS hl)
theorem dk_lsw (X : dk_X p s m args meth c cc nL own ret g A) {dflt : Int} {ps : Array (Int × Int)} {len tgt : Nat} {x : Int32} {off : Int} (hdg : decode cc pc = .ok (.lookupswitch dflt ps, len)) (hp : (ps.toList.zip (ps.toList.drop 1)).all (fun (a, next) => a.1 < next.1) = true) (ho : Op.lookupswitch.offset ps.toList dflt x.toInt = off) (ht : (pc : Int) + off = (tgt : Int))
    (kk : dk_J p l e R s m args below meth c g A Q nL cells slots tgt lv st ws) : dk_J p l e R s m args below meth c g A Q nL cells slots pc lv (.int x :: st) ws := fun H locs ls hP hD hS hl =>
  lv_lookup X.1 X.2.1 hdg hp ho ht (kk H locs ls hP hD hS hl)
theorem dk_ldc (X : dk_X p s m args meth c cc nL own ret g A) {index : Nat} {v : Int32} (hc : Cond.constant own index v ∈ dk_tb) (hdg : decode cc pc = .ok (.ldc index, 2))
    (kk : dk_J p l e R s m args below meth c g A Q nL cells slots (pc + 2) lv (.int v :: st) ws) : dk_J p l e R s m args below meth c g A Q nL cells slots pc lv st ws := fun H locs ls hP hD hS hl =>
  lv_ldc X.1 X.2.1 X.2.2.2.1 (X.2.2.2.2.1 _ hc) hdg (kk H locs ls hP hD hS hl)
theorem dk_ldc2 (X : dk_X p s m args meth c cc nL own ret g A) {index : Nat} {v : Int64} (hc : Cond.constantLong own index v ∈ dk_tb) (hdg : decode cc pc = .ok (.ldc2_w index, 3))
    (kk : dk_J p l e R s m args below meth c g A Q nL cells slots (pc + 3) lv (.long v :: st) ws) : dk_J p l e R s m args below meth c g A Q nL cells slots pc lv st ws := fun H locs ls hP hD hS hl =>
  lv_ldc2 X.1 X.2.1 X.2.2.2.1 (X.2.2.2.2.1 _ hc) hdg (kk H locs ls hP hD hS hl)
end DKJ
/-! ===== contracts: a method told by a function F of the world's numbers ===== -/
def dk_ws (y : MethodName) (b : ByteArray) (nL : Nat) (ret : Option FieldType) : List Cond := .code y b nL ret :: dk_tb
def dk_In (g : dk_G) (ws : va_W) (sz : Nat) (U : State) : Prop := U.heap.size = sz ∧ va_P g.1 dk_cls ws U.heap ∧ va_K g.1 dk_cls (dk_ty g) U ∧ va_D (fun _ => True) ws ∧ dk_Z g (va_A ws sz) U U.heap
def dk_Out (g : dk_G) (A : Nat → Prop) (ws : va_W) (t : State) : Prop := va_P g.1 dk_cls ws t.heap ∧ va_K g.1 dk_cls (dk_ty g) t ∧ va_D A ws
def dk_Mi (l : Launch) (g : dk_G) (y : MethodName) (b : ByteArray) (nL : Nat) (rm : Room) (ret : Option FieldType) (av : List Value) (wd : dk_S → va_W) (S : dk_S) (F : Option (Int32 × dk_S)) : Prop := ∀ (sz : Nat) (res : Int32 × dk_S), F = some res → Met l y (dk_ws y b nL ret) rm (va_Pc av (dk_In g (wd S) sz)) (va_Qi (fun r u => (r, u) = res) (fun u t => dk_Out g (va_A (wd S) sz) (wd u) t) (va_A (wd S) sz)) 0 0 (va_A (wd S) sz)
def dk_Ml (l : Launch) (g : dk_G) (y : MethodName) (b : ByteArray) (nL : Nat) (rm : Room) (ret : Option FieldType) (av : List Value) (wd : dk_S → va_W) (S : dk_S) (F : Option (Int64 × dk_S)) : Prop := ∀ (sz : Nat) (res : Int64 × dk_S), F = some res → Met l y (dk_ws y b nL ret) rm (va_Pc av (dk_In g (wd S) sz)) (va_Ql (fun r u => (r, u) = res) (fun u t => dk_Out g (va_A (wd S) sz) (wd u) t) (va_A (wd S) sz)) 0 0 (va_A (wd S) sz)
def dk_Mv (l : Launch) (g : dk_G) (y : MethodName) (b : ByteArray) (nL : Nat) (rm : Room) (ret : Option FieldType) (av : List Value) (wd : dk_S → va_W) (S : dk_S) (F : Option dk_S) : Prop := ∀ (sz : Nat) (res : dk_S), F = some res → Met l y (dk_ws y b nL ret) rm (va_Pc av (dk_In g (wd S) sz)) (va_Qv (fun u => u = res) (fun u t => dk_Out g (va_A (wd S) sz) (wd u) t) (va_A (wd S) sz)) 0 0 (va_A (wd S) sz)
theorem dk_In_blind (g : dk_G) (ws : va_W) (sz : Nat) (av : List Value) : FrameBlind (va_Pc av (dk_In g ws sz)) := by
  intro a U gg mk q
  obtain ⟨q0, q1, qP, qK, qD, qZ⟩ := q
  exact ⟨q0, q1, qP, va_K.moved (u := U) (U := U.calling gg mk a) (Vm.Alike.refl U.vm) qK, qD, dk_Z.same (U := U.calling gg mk a) rfl qZ⟩
/-- where a method's answer goes -/
def dk_Ri (p : Program) (l : Launch) (e : Env) (R : Room) (s : State) (m : MethodId) (args : Array Value) (below : List Frame) (meth : Method) (c : Code) (g : dk_G) (A : Nat → Prop) (Q : State → Prop) (nL : Nat) (cc : ByteArray) (ret : Option FieldType) (wd : dk_S → va_W) (res : Int32 × dk_S) : Prop :=
  ∀ (pc : Nat) (lv : List (Nat × Value)), decode cc pc = .ok (.ireturn, 1) → (∃ ty : FieldType, ret = some ty ∧ narrow ty (.int res.1) = .int res.1) → dk_J p l e R s m args below meth c g A Q nL 0 0 pc lv [.int res.1] (wd res.2)
def dk_Rl (p : Program) (l : Launch) (e : Env) (R : Room) (s : State) (m : MethodId) (args : Array Value) (below : List Frame) (meth : Method) (c : Code) (g : dk_G) (A : Nat → Prop) (Q : State → Prop) (nL : Nat) (cc : ByteArray) (ret : Option FieldType) (wd : dk_S → va_W) (res : Int64 × dk_S) : Prop :=
  ∀ (pc : Nat) (lv : List (Nat × Value)), decode cc pc = .ok (.lreturn, 1) → dk_J p l e R s m args below meth c g A Q nL 0 0 pc lv [.long res.1] (wd res.2)
def dk_Rv (p : Program) (l : Launch) (e : Env) (R : Room) (s : State) (m : MethodId) (args : Array Value) (below : List Frame) (meth : Method) (c : Code) (g : dk_G) (A : Nat → Prop) (Q : State → Prop) (nL : Nat) (cc : ByteArray) (ret : Option FieldType) (wd : dk_S → va_W) (res : dk_S) : Prop :=
  ∀ (pc : Nat) (lv : List (Nat × Value)), decode cc pc = .ok (.return_, 1) → dk_J p l e R s m args below meth c g A Q nL 0 0 pc lv [] (wd res)
theorem dk_nz {x : Int32} (h : x = 0 ∨ x = 1) : narrow .boolean (.int x) = .int x := by rcases h with h | h <;> rw [h] <;> rfl
section DKR
variable {p : Program} {l : Launch} {e : Env} {R : Room} {s : State} {m : MethodId} {args : Array Value} {below : List Frame} {meth : Method} {c : Code} {g : dk_G} {A : Nat → Prop} {Q : State → Prop} {nL pc : Nat} {lv : List (Nat × Value)} {cc : ByteArray} {own : String} {ret : Option FieldType} {wd : dk_S → va_W} {S : dk_S}
theorem dk_reti {x : Int32} {res : Int32 × dk_S} (hR : dk_Ri p l e R s m args below meth c g A Q nL cc (some .int) wd res) (hF : some (x, S) = some res) (hdg : decode cc pc = .ok (.ireturn, 1)) : dk_J p l e R s m args below meth c g A Q nL 0 0 pc lv [.int x] (wd S) := by
  cases hF
  exact hR pc lv hdg ⟨_, rfl, rfl⟩
theorem dk_retz {x : Int32} {res : Int32 × dk_S} (hR : dk_Ri p l e R s m args below meth c g A Q nL cc (some .boolean) wd res) (hF : dk_b x (some (x, S)) = some res) (hdg : decode cc pc = .ok (.ireturn, 1)) : dk_J p l e R s m args below meth c g A Q nL 0 0 pc lv [.int x] (wd S) := by
  obtain ⟨h, hF⟩ := dk_b_out hF
  cases hF
  exact hR pc lv hdg ⟨_, rfl, dk_nz h⟩
def dk_nr {β : Type} (ty : FieldType) (x : Int32) (k : Option β) : Option β := if narrow ty (.int x) = .int x then k else none
theorem dk_retn {ty : FieldType} {x : Int32} {res : Int32 × dk_S} (hR : dk_Ri p l e R s m args below meth c g A Q nL cc (some ty) wd res) (hF : dk_nr ty x (some (x, S)) = some res) (hdg : decode cc pc = .ok (.ireturn, 1)) : dk_J p l e R s m args below meth c g A Q nL 0 0 pc lv [.int x] (wd S) := by
  unfold dk_nr at hF; split at hF
  · rename_i h
    cases hF
    exact hR pc lv hdg ⟨_, rfl, h⟩
  · cases hF
theorem dk_retl {x : Int64} {res : Int64 × dk_S} (hR : dk_Rl p l e R s m args below meth c g A Q nL cc ret wd res) (hF : some (x, S) = some res) (hdg : decode cc pc = .ok (.lreturn, 1)) : dk_J p l e R s m args below meth c g A Q nL 0 0 pc lv [.long x] (wd S) := by
  cases hF
  exact hR pc lv hdg
theorem dk_retv {res : dk_S} (hR : dk_Rv p l e R s m args below meth c g A Q nL cc ret wd res) (hF : some S = some res) (hdg : decode cc pc = .ok (.return_, 1)) : dk_J p l e R s m args below meth c g A Q nL 0 0 pc lv [] (wd S) := by
  cases hF
  exact hR pc lv hdg
end DKR
section DKE
variable {l : Launch} {g : dk_G} {y : MethodName} {b : ByteArray} {nL : Nat} {rm : Room} {ret : Option FieldType} {av : List Value} {wd : dk_S → va_W} {S : dk_S}
theorem dk_enteri {F : Option (Int32 × dk_S)} (hy : plainName y.cls = true) (hn : (lg_sl av).length ≤ nL)
    (body : ∀ (p : Program) (e : Env) (s : State) (m : MethodId) (args : Array Value) (below : List Frame) (meth : Method) (c : Code) (A : Nat → Prop) (Q : State → Prop) (res : Int32 × dk_S), F = some res → dk_X p s m args meth c b nL y.cls ret g A → dk_Ri p l e rm s m args below meth c g A Q nL b ret wd res → dk_J p l e rm s m args below meth c g A Q nL 0 0 0 (lv_args 0 av) [] (wd S)) : dk_Mi l g y b nL rm ret av wd S F := by
  intro sz res hF
  refine Met.ofW (cc := b) (maxL := nL) (ret := ret) hy rfl ?_
  intro p e s m args below meth c s₁ B hml hv
  obtain ⟨rfl, hsz, hP, hK, hD0, hZ⟩ := hv
  subst hsz
  have hts0 := atoms_spec (ws := dk_ws y b nL ret) B.pre
  have hl := lv_entry av (n := nL) hn
  rw [lg_entry_eq]
  refine body p e s m _ below meth c _ _ res hF ⟨B.exec, B.bytes, hml, findClass_of_methodNamed B.named, fun w hw => hts0 w (List.mem_cons_of_mem _ hw), hK, fun q h => Or.inr h, B.returns, B.notSynchronized, hZ⟩ ?_ s.heap [] _ hP (hD0.self (sz := s.heap.size)) va_S.rf hl
  intro pc lv hdg hr H locs ls hP hD hS hl
  have hq : ∀ t : State, t.heap = H → s.WarmedH t.vm → (va_Qi (fun r u => (r, u) = res) (fun u t => dk_Out g (va_A (wd S) s.heap.size) (wd u) t) (va_A (wd S) s.heap.size)) av.toArray s (.returned (some (.int res.1))) t := fun t ht hW => ⟨⟨res.1, res.2, rfl, rfl, by rw [ht]; exact hP, va_K.moved hW.alike hK, hD⟩, hS.F ht⟩
  have hret := B.returns
  have hlk := B.notSynchronized
  obtain ⟨ty, rfl, hnr⟩ := hr
  exact W.zret B.exec B.bytes hret hnr hq hS.2.2 hdg hlk
theorem dk_enterl {F : Option (Int64 × dk_S)} (hy : plainName y.cls = true) (hret : ret = some .long) (hn : (lg_sl av).length ≤ nL)
    (body : ∀ (p : Program) (e : Env) (s : State) (m : MethodId) (args : Array Value) (below : List Frame) (meth : Method) (c : Code) (A : Nat → Prop) (Q : State → Prop) (res : Int64 × dk_S), F = some res → dk_X p s m args meth c b nL y.cls ret g A → dk_Rl p l e rm s m args below meth c g A Q nL b ret wd res → dk_J p l e rm s m args below meth c g A Q nL 0 0 0 (lv_args 0 av) [] (wd S)) : dk_Ml l g y b nL rm ret av wd S F := by
  intro sz res hF
  refine Met.ofW (cc := b) (maxL := nL) (ret := ret) hy rfl ?_
  intro p e s m args below meth c s₁ B hml hv
  obtain ⟨rfl, hsz, hP, hK, hD0, hZ⟩ := hv
  subst hsz
  have hts0 := atoms_spec (ws := dk_ws y b nL ret) B.pre
  have hl := lv_entry av (n := nL) hn
  rw [lg_entry_eq]
  refine body p e s m _ below meth c _ _ res hF ⟨B.exec, B.bytes, hml, findClass_of_methodNamed B.named, fun w hw => hts0 w (List.mem_cons_of_mem _ hw), hK, fun q h => Or.inr h, B.returns, B.notSynchronized, hZ⟩ ?_ s.heap [] _ hP (hD0.self (sz := s.heap.size)) va_S.rf hl
  intro pc lv hdg H locs ls hP hD hS hl
  have hq : ∀ t : State, t.heap = H → s.WarmedH t.vm → (va_Ql (fun r u => (r, u) = res) (fun u t => dk_Out g (va_A (wd S) s.heap.size) (wd u) t) (va_A (wd S) s.heap.size)) av.toArray s (.returned (some (.long res.1))) t := fun t ht hW => ⟨⟨res.1, res.2, rfl, rfl, by rw [ht]; exact hP, va_K.moved hW.alike hK, hD⟩, hS.F ht⟩
  have hrt := B.returns
  have hlk := B.notSynchronized
  exact W.lret B.exec B.bytes (hrt.trans hret) hq hS.2.2 hdg hlk
theorem dk_enterv {F : Option dk_S} (hy : plainName y.cls = true) (hret : ret = none) (hn : (lg_sl av).length ≤ nL)
    (body : ∀ (p : Program) (e : Env) (s : State) (m : MethodId) (args : Array Value) (below : List Frame) (meth : Method) (c : Code) (A : Nat → Prop) (Q : State → Prop) (res : dk_S), F = some res → dk_X p s m args meth c b nL y.cls ret g A → dk_Rv p l e rm s m args below meth c g A Q nL b ret wd res → dk_J p l e rm s m args below meth c g A Q nL 0 0 0 (lv_args 0 av) [] (wd S)) : dk_Mv l g y b nL rm ret av wd S F := by
  intro sz res hF
  refine Met.ofW (cc := b) (maxL := nL) (ret := ret) hy rfl ?_
  intro p e s m args below meth c s₁ B hml hv
  obtain ⟨rfl, hsz, hP, hK, hD0, hZ⟩ := hv
  subst hsz
  have hts0 := atoms_spec (ws := dk_ws y b nL ret) B.pre
  have hl := lv_entry av (n := nL) hn
  rw [lg_entry_eq]
  refine body p e s m _ below meth c _ _ res hF ⟨B.exec, B.bytes, hml, findClass_of_methodNamed B.named, fun w hw => hts0 w (List.mem_cons_of_mem _ hw), hK, fun q h => Or.inr h, B.returns, B.notSynchronized, hZ⟩ ?_ s.heap [] _ hP (hD0.self (sz := s.heap.size)) va_S.rf hl
  intro pc lv hdg H locs ls hP hD hS hl
  have hq : ∀ t : State, t.heap = H → s.WarmedH t.vm → (va_Qv (fun u => u = res) (fun u t => dk_Out g (va_A (wd S) s.heap.size) (wd u) t) (va_A (wd S) s.heap.size)) av.toArray s (.returned none) t := fun t ht hW => ⟨⟨res, rfl, rfl, by rw [ht]; exact hP, va_K.moved hW.alike hK, hD⟩, hS.F ht⟩
  have hrt := B.returns
  have hlk := B.notSynchronized
  exact W.vret B.exec B.bytes (hrt.trans hret) hq hS.2.2 hdg hlk
end DKE
/-! ===== calls ===== -/
theorem dk_good : dk_tb.all goodWord = true := List.all_eq_true.mpr (fun _ h => (List.mem_filter.mp h).2)
theorem dk_goodIn {ws : List Cond} (h : ∀ w ∈ ws, w ∈ dk_tb) : GoodIn dk_tb ws := fun w hw => ⟨h w hw, good_of_word (List.all_eq_true.mp dk_good w (h w hw))⟩
def dk_Yv (y : MethodName) (b : ByteArray) (nL : Nat) (ret : Option FieldType) (n : Nat) : Prop := Cond.instanceMethod y ∈ dk_tb ∧ Cond.selects y.cls y y ∈ dk_tb ∧ Cond.initialized y.cls ∈ dk_tb ∧ Cond.code y b nL ret ∈ dk_tb ∧ (y.cls ≠ "java/lang/invoke/MethodHandle" ∧ y.cls ≠ "java/lang/invoke/VarHandle" ∧ (parseMethodDescriptor y.desc).map (fun d => d.parameters.length) = some n)
def dk_Ys (y : MethodName) (b : ByteArray) (nL : Nat) (ret : Option FieldType) (n : Nat) : Prop := Cond.static y ∈ dk_tb ∧ Cond.initialized y.cls ∈ dk_tb ∧ Cond.code y b nL ret ∈ dk_tb ∧ (y.cls ≠ "java/lang/invoke/MethodHandle" ∧ y.cls ≠ "java/lang/invoke/VarHandle" ∧ (parseMethodDescriptor y.desc).map (fun d => d.parameters.length) = some n)
theorem dk_cwV {R : Room} {s : State} {args : Array Value} {y : MethodName} {b : ByteArray} {nL n idx : Nat} {ret : Option FieldType} {rm : Room} {own : String} (hts : ∀ w ∈ dk_tb, w.before args s = true) (hy : dk_Yv y b nL ret n) (hlk : Cond.methodLink own idx y ∈ dk_tb) (hrc : rm.cells = 0) (hrs : rm.slots = 0) (hR : rm.frames + 1 ≤ R.frames ∧ 8 + (nL + 11) + rm.locals ≤ R.locals) : CallW R s args own y.cls idx y b nL ret (dk_ws y b nL ret) rm 0 0 n :=
  cwV n hts (dk_goodIn (fun w hw => by
    rcases List.mem_append.mp hw with h | h
    · simp only [List.mem_cons, List.not_mem_nil, or_false] at h
      rcases h with rfl | rfl | rfl | rfl
      · exact hlk
      · exact hy.1
      · exact hy.2.1
      · exact hy.2.2.1
    · rcases List.mem_cons.mp h with rfl | h
      · exact hy.2.2.2.1
      · exact h)) rfl hrc hrs ⟨rfl, hy.2.2.2.2⟩ hR
theorem dk_cwS {R : Room} {s : State} {args : Array Value} {y : MethodName} {b : ByteArray} {nL n idx : Nat} {ret : Option FieldType} {rm : Room} {own : String} (hts : ∀ w ∈ dk_tb, w.before args s = true) (hy : dk_Ys y b nL ret n) (hlk : Cond.methodLink own idx y ∈ dk_tb) (hrc : rm.cells = 0) (hrs : rm.slots = 0) (hR : rm.frames + 1 ≤ R.frames ∧ 8 + (nL + 11) + rm.locals ≤ R.locals) : CallB R s args own idx y b nL ret (dk_ws y b nL ret) rm 0 0 n ∧ (Cond.static y).before args s = true :=
  ⟨callB_of n hts (dk_goodIn (fun w hw => by
      rcases List.mem_cons.mp hw with rfl | h
      · exact hy.2.2.1
      · exact h)) rfl hrc hrs (hts _ hy.2.1) (hts _ hlk) hy.2.2.2 hR, hts _ hy.1⟩
section DKC
variable {p : Program} {l : Launch} {e : Env} {R : Room} {s : State} {m : MethodId} {args : Array Value} {below : List Frame} {meth : Method} {c : Code} {g : dk_G} {A : Nat → Prop} {Q : State → Prop} {nL cells slots pc : Nat} {lv : List (Nat × Value)} {st st0 : List Value} {cc : ByteArray} {own : String} {ret : Option FieldType} {wd : dk_S → va_W} {S : dk_S}
theorem dk_free (X : dk_X p s m args meth c cc nL own ret g A) {ws : va_W} {H : Heap} {locs : List Loc} (hD : va_D A ws) (hS : va_S A s.heap H locs) : ∀ q, va_A ws H.size q → A q := by
  intro q h
  rcases h with ⟨k, e, h⟩ | h
  · exact hD.2 k (q, e) h
  · exact X.2.2.2.2.2.2.1 q (Nat.le_trans hS.1 h)
theorem dk_start (X : dk_X p s m args meth c cc nL own ret g A) {ws : va_W} {H : Heap} {locs : List Loc} (hP : va_P g.1 dk_cls ws H) (hD : va_D A ws) (hS : va_S A s.heap H locs) (U : State) (hU : U.heap = H) (hW : s.WarmedH U.vm) : dk_In g ws H.size U := by
  refine ⟨by rw [hU], by rw [hU]; exact hP, va_K.moved hW.alike X.2.2.2.2.2.1, hD.weaken (fun _ _ _ _ => trivial), ?_⟩
  rw [hU]
  exact ((X.2.2.2.2.2.2.2.2.2.kept (fun a h1 h2 => hS.2.1 a h1 h2)).narrow (dk_free X hD hS)).warm hW
theorem dk_callVi {β : Type} {res : β} {y : MethodName} {b : ByteArray} {nL2 n idx : Nat} {ret2 : Option FieldType} {rm : Room} {a ci : Nat} {fs : List Value} {r : vw_C} {F : Option (Int32 × dk_S)} {K : Int32 → dk_S → Option β} (X : dk_X p s m args meth c cc nL own ret g A) (hy : dk_Yv y b nL2 ret2 n) (As : List Value) (hM : dk_Mi l g y b nL2 rm ret2 (.ref a :: As) wd S F) (q0 : Nat) (he : (wd S)[q0]? = some (a, .inr (ci, fs))) (hc : dk_cls[ci]? = some r) (hrc : r.1 = y.cls) (hlk : Cond.methodLink own idx y ∈ dk_tb) (hst : st0 = As.reverse ++ .ref a :: st) (hAs : As.length = n) (hrm : rm.cells = 0 ∧ rm.slots = 0 ∧ rm.frames + 1 ≤ R.frames ∧ 8 + (nL2 + 11) + rm.locals ≤ R.locals ∧ cells ≤ R.cells ∧ slots ≤ R.slots) (hcat : (st.map fun v => v.category).sum ≤ 8) (hdg : decode cc pc = .ok (.invokevirtual idx, 3)) (hF : dk_c F K = some res)
    (kk : ∀ (r : Int32) (S' : dk_S), K r S' = some res → dk_J p l e R s m args below meth c g A Q nL cells slots (pc + 3) lv (.int r :: st) (wd S')) : dk_J p l e R s m args below meth c g A Q nL cells slots pc lv st0 (wd S) := by
  obtain ⟨v, hv, hF⟩ := dk_c_out hF
  intro H locs ls hP hD hS hl
  obtain ⟨h1, h2, h3, h4, h5, h6⟩ := hrm
  have hx := X
  obtain ⟨x1, x2, x3, x4, x5, x6, -⟩ := X
  have hrecv := va_recv x6 hP hc he
  rw [hrc] at hrecv
  refine va_calli (va_runV (As := As) (rest := st) ⟨x1, x2, x3, x4, x5⟩ (hM H.size v hv) (dk_cwV x5 hy hlk h1 h2 ⟨h3, h4⟩) ⟨dk_In_blind _ _ _ _, hrecv, fun U hU hW => ⟨rfl, dk_start hx hP hD hS U hU hW⟩⟩ rfl hAs hl.1 hst (lv_room hcat) hdg ⟨h5, h6⟩) hS (fun q _ h => dk_free hx hD hS q h) (dk_free hx hD hS) (fun r u t H1 locs1 ht hvm hw hB hz1 hk1 hS1 => ?_)
  obtain ⟨b1, b2, b3⟩ := hB
  cases hw
  rw [ht] at b1
  exact kk r u hF H1 locs1 ls b1 (b3.weaken (fun k q _ h => dk_free hx hD hS q.1 h)) hS1 hl
theorem dk_callVl {β : Type} {res : β} {y : MethodName} {b : ByteArray} {nL2 n idx : Nat} {ret2 : Option FieldType} {rm : Room} {a ci : Nat} {fs : List Value} {r : vw_C} {F : Option (Int64 × dk_S)} {K : Int64 → dk_S → Option β} (X : dk_X p s m args meth c cc nL own ret g A) (hy : dk_Yv y b nL2 ret2 n) (As : List Value) (hM : dk_Ml l g y b nL2 rm ret2 (.ref a :: As) wd S F) (q0 : Nat) (he : (wd S)[q0]? = some (a, .inr (ci, fs))) (hc : dk_cls[ci]? = some r) (hrc : r.1 = y.cls) (hlk : Cond.methodLink own idx y ∈ dk_tb) (hst : st0 = As.reverse ++ .ref a :: st) (hAs : As.length = n) (hrm : rm.cells = 0 ∧ rm.slots = 0 ∧ rm.frames + 1 ≤ R.frames ∧ 8 + (nL2 + 11) + rm.locals ≤ R.locals ∧ cells ≤ R.cells ∧ slots ≤ R.slots) (hcat : (st.map fun v => v.category).sum ≤ 8) (hdg : decode cc pc = .ok (.invokevirtual idx, 3)) (hF : dk_c F K = some res)
    (kk : ∀ (r : Int64) (S' : dk_S), K r S' = some res → dk_J p l e R s m args below meth c g A Q nL cells slots (pc + 3) lv (.long r :: st) (wd S')) : dk_J p l e R s m args below meth c g A Q nL cells slots pc lv st0 (wd S) := by
  obtain ⟨v, hv, hF⟩ := dk_c_out hF
  intro H locs ls hP hD hS hl
  obtain ⟨h1, h2, h3, h4, h5, h6⟩ := hrm
  have hx := X
  obtain ⟨x1, x2, x3, x4, x5, x6, -⟩ := X
  have hrecv := va_recv x6 hP hc he
  rw [hrc] at hrecv
  refine va_calll (va_runV (As := As) (rest := st) ⟨x1, x2, x3, x4, x5⟩ (hM H.size v hv) (dk_cwV x5 hy hlk h1 h2 ⟨h3, h4⟩) ⟨dk_In_blind _ _ _ _, hrecv, fun U hU hW => ⟨rfl, dk_start hx hP hD hS U hU hW⟩⟩ rfl hAs hl.1 hst (lv_room hcat) hdg ⟨h5, h6⟩) hS (fun q _ h => dk_free hx hD hS q h) (dk_free hx hD hS) (fun r u t H1 locs1 ht hvm hw hB hz1 hk1 hS1 => ?_)
  obtain ⟨b1, b2, b3⟩ := hB
  cases hw
  rw [ht] at b1
  exact kk r u hF H1 locs1 ls b1 (b3.weaken (fun k q _ h => dk_free hx hD hS q.1 h)) hS1 hl
theorem dk_callVv {β : Type} {res : β} {y : MethodName} {b : ByteArray} {nL2 n idx : Nat} {ret2 : Option FieldType} {rm : Room} {a ci : Nat} {fs : List Value} {r : vw_C} {F : Option dk_S} {K : dk_S → Option β} (X : dk_X p s m args meth c cc nL own ret g A) (hy : dk_Yv y b nL2 ret2 n) (As : List Value) (hM : dk_Mv l g y b nL2 rm ret2 (.ref a :: As) wd S F) (q0 : Nat) (he : (wd S)[q0]? = some (a, .inr (ci, fs))) (hc : dk_cls[ci]? = some r) (hrc : r.1 = y.cls) (hlk : Cond.methodLink own idx y ∈ dk_tb) (hst : st0 = As.reverse ++ .ref a :: st) (hAs : As.length = n) (hrm : rm.cells = 0 ∧ rm.slots = 0 ∧ rm.frames + 1 ≤ R.frames ∧ 8 + (nL2 + 11) + rm.locals ≤ R.locals ∧ cells ≤ R.cells ∧ slots ≤ R.slots) (hcat : (st.map fun v => v.category).sum ≤ 8) (hdg : decode cc pc = .ok (.invokevirtual idx, 3)) (hF : dk_cv F K = some res)
    (kk : ∀ (S' : dk_S), K S' = some res → dk_J p l e R s m args below meth c g A Q nL cells slots (pc + 3) lv st (wd S')) : dk_J p l e R s m args below meth c g A Q nL cells slots pc lv st0 (wd S) := by
  obtain ⟨v, hv, hF⟩ := dk_cv_out hF
  intro H locs ls hP hD hS hl
  obtain ⟨h1, h2, h3, h4, h5, h6⟩ := hrm
  have hx := X
  obtain ⟨x1, x2, x3, x4, x5, x6, -⟩ := X
  have hrecv := va_recv x6 hP hc he
  rw [hrc] at hrecv
  refine va_callv (va_runV (As := As) (rest := st) ⟨x1, x2, x3, x4, x5⟩ (hM H.size v hv) (dk_cwV x5 hy hlk h1 h2 ⟨h3, h4⟩) ⟨dk_In_blind _ _ _ _, hrecv, fun U hU hW => ⟨rfl, dk_start hx hP hD hS U hU hW⟩⟩ rfl hAs hl.1 hst (lv_room hcat) hdg ⟨h5, h6⟩) hS (fun q _ h => dk_free hx hD hS q h) (dk_free hx hD hS) (fun u t H1 locs1 ht hvm hw hB hz1 hk1 hS1 => ?_)
  obtain ⟨b1, b2, b3⟩ := hB
  subst hw
  rw [ht] at b1
  exact kk _ hF H1 locs1 ls b1 (b3.weaken (fun k q _ h => dk_free hx hD hS q.1 h)) hS1 hl
theorem dk_callSi {β : Type} {res : β} {y : MethodName} {b : ByteArray} {nL2 n idx : Nat} {ret2 : Option FieldType} {rm : Room} {F : Option (Int32 × dk_S)} {K : Int32 → dk_S → Option β} (X : dk_X p s m args meth c cc nL own ret g A) (hy : dk_Ys y b nL2 ret2 n) (As : List Value) (hM : dk_Mi l g y b nL2 rm ret2 As wd S F) (hlk : Cond.methodLink own idx y ∈ dk_tb) (hst : st0 = As.reverse ++ st) (hAs : As.length = n) (hrm : rm.cells = 0 ∧ rm.slots = 0 ∧ rm.frames + 1 ≤ R.frames ∧ 8 + (nL2 + 11) + rm.locals ≤ R.locals ∧ cells ≤ R.cells ∧ slots ≤ R.slots) (hcat : (st.map fun v => v.category).sum ≤ 8) (hdg : decode cc pc = .ok (.invokestatic idx, 3)) (hF : dk_c F K = some res)
    (kk : ∀ (r : Int32) (S' : dk_S), K r S' = some res → dk_J p l e R s m args below meth c g A Q nL cells slots (pc + 3) lv (.int r :: st) (wd S')) : dk_J p l e R s m args below meth c g A Q nL cells slots pc lv st0 (wd S) := by
  obtain ⟨v, hv, hF⟩ := dk_c_out hF
  intro H locs ls hP hD hS hl
  obtain ⟨h1, h2, h3, h4, h5, h6⟩ := hrm
  have hx := X
  obtain ⟨x1, x2, x3, x4, x5, x6, -⟩ := X
  refine va_calli (va_runS (As := As) (rest := st) ⟨x1, x2, x3, x4, x5⟩ (hM H.size v hv) (dk_cwS x5 hy hlk h1 h2 ⟨h3, h4⟩) ⟨dk_In_blind _ _ _ _, fun U hU hW => ⟨rfl, dk_start hx hP hD hS U hU hW⟩⟩ rfl hAs hl.1 hst (lv_room hcat) hdg ⟨h5, h6⟩) hS (fun q _ h => dk_free hx hD hS q h) (dk_free hx hD hS) (fun r u t H1 locs1 ht hvm hw hB hz1 hk1 hS1 => ?_)
  obtain ⟨b1, b2, b3⟩ := hB
  cases hw
  rw [ht] at b1
  exact kk r u hF H1 locs1 ls b1 (b3.weaken (fun k q _ h => dk_free hx hD hS q.1 h)) hS1 hl
theorem dk_callSl {β : Type} {res : β} {y : MethodName} {b : ByteArray} {nL2 n idx : Nat} {ret2 : Option FieldType} {rm : Room} {F : Option (Int64 × dk_S)} {K : Int64 → dk_S → Option β} (X : dk_X p s m args meth c cc nL own ret g A) (hy : dk_Ys y b nL2 ret2 n) (As : List Value) (hM : dk_Ml l g y b nL2 rm ret2 As wd S F) (hlk : Cond.methodLink own idx y ∈ dk_tb) (hst : st0 = As.reverse ++ st) (hAs : As.length = n) (hrm : rm.cells = 0 ∧ rm.slots = 0 ∧ rm.frames + 1 ≤ R.frames ∧ 8 + (nL2 + 11) + rm.locals ≤ R.locals ∧ cells ≤ R.cells ∧ slots ≤ R.slots) (hcat : (st.map fun v => v.category).sum ≤ 8) (hdg : decode cc pc = .ok (.invokestatic idx, 3)) (hF : dk_c F K = some res)
    (kk : ∀ (r : Int64) (S' : dk_S), K r S' = some res → dk_J p l e R s m args below meth c g A Q nL cells slots (pc + 3) lv (.long r :: st) (wd S')) : dk_J p l e R s m args below meth c g A Q nL cells slots pc lv st0 (wd S) := by
  obtain ⟨v, hv, hF⟩ := dk_c_out hF
  intro H locs ls hP hD hS hl
  obtain ⟨h1, h2, h3, h4, h5, h6⟩ := hrm
  have hx := X
  obtain ⟨x1, x2, x3, x4, x5, x6, -⟩ := X
  refine va_calll (va_runS (As := As) (rest := st) ⟨x1, x2, x3, x4, x5⟩ (hM H.size v hv) (dk_cwS x5 hy hlk h1 h2 ⟨h3, h4⟩) ⟨dk_In_blind _ _ _ _, fun U hU hW => ⟨rfl, dk_start hx hP hD hS U hU hW⟩⟩ rfl hAs hl.1 hst (lv_room hcat) hdg ⟨h5, h6⟩) hS (fun q _ h => dk_free hx hD hS q h) (dk_free hx hD hS) (fun r u t H1 locs1 ht hvm hw hB hz1 hk1 hS1 => ?_)
  obtain ⟨b1, b2, b3⟩ := hB
  cases hw
  rw [ht] at b1
  exact kk r u hF H1 locs1 ls b1 (b3.weaken (fun k q _ h => dk_free hx hD hS q.1 h)) hS1 hl
end DKC
theorem q_Land : dk_Cl R_Land T_Land 5 0 t_Land := ⟨by decide +kernel, rfl, by decide +kernel, by decide +kernel⟩
theorem q_Diary : dk_Cl R_Diary T_Diary 7 1 t_Diary := ⟨by decide +kernel, rfl, by decide +kernel, by decide +kernel⟩
theorem q_Reader : dk_Cl R_Reader T_Reader 11 2 t_Reader := ⟨by decide +kernel, rfl, by decide +kernel, by decide +kernel⟩
theorem q_Scales : dk_Cl R_Scales T_Scales 3 3 t_Scales := ⟨by decide +kernel, rfl, by decide +kernel, by decide +kernel⟩
theorem q_Scene : dk_Cl R_Scene T_Scene 20 4 t_Scene := ⟨by decide +kernel, rfl, by decide +kernel, by decide +kernel⟩
theorem q_Text : dk_Cl R_Text T_Text 2 5 t_Text := ⟨by decide +kernel, rfl, by decide +kernel, by decide +kernel⟩
theorem q_Sheet : dk_Cl R_Sheet T_Sheet 3 6 t_Sheet := ⟨by decide +kernel, rfl, by decide +kernel, by decide +kernel⟩
theorem q_Image : dk_Cl R_Image T_Image 6 7 t_Image := ⟨by decide +kernel, rfl, by decide +kernel, by decide +kernel⟩
theorem q_Hare : dk_Cl R_Hare T_Hare 10 8 t_Hare := ⟨by decide +kernel, rfl, by decide +kernel, by decide +kernel⟩
theorem q_Model : dk_Cl R_Model T_Model 51 9 t_Model := ⟨by decide +kernel, rfl, by decide +kernel, by decide +kernel⟩
