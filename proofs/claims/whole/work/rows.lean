section
-- ===== PART A: goes FIRST, ahead of the names: the tables' words, and 'selects' of the private methods out of them =====
/-- a private method of a class that the tables say can be made, by its rows of tables_1 -/
def lw_okq (q : MethodName × Nat) : Prop := (q.1.cls ≠ "java/lang/invoke/MethodHandle" ∧ q.1.cls ≠ "java/lang/invoke/VarHandle") ∧ Cond.instantiable q.1.cls q.2 ∈ tables_1 ∧ Cond.privateMethod q.1 ∈ tables_1 ∧ Cond.instanceMethod q.1 ∈ tables_1
theorem lw_p0 : lw_okq (⟨"WhoseHare$Reader", "scan", "()V"⟩, 11) := ⟨⟨by decide +kernel, by decide +kernel⟩, List.mem_of_getElem? (i := 104) (by decide +kernel), List.mem_of_getElem? (i := 425) (by decide +kernel), List.mem_of_getElem? (i := 426) (by decide +kernel)⟩
theorem lw_p1 : lw_okq (⟨"WhoseHare$Reader", "scanWord", "()V"⟩, 11) := ⟨⟨by decide +kernel, by decide +kernel⟩, List.mem_of_getElem? (i := 104) (by decide +kernel), List.mem_of_getElem? (i := 432) (by decide +kernel), List.mem_of_getElem? (i := 433) (by decide +kernel)⟩
theorem lw_p2 : lw_okq (⟨"WhoseHare$Reader", "numberOfWord", "()I"⟩, 11) := ⟨⟨by decide +kernel, by decide +kernel⟩, List.mem_of_getElem? (i := 104) (by decide +kernel), List.mem_of_getElem? (i := 436) (by decide +kernel), List.mem_of_getElem? (i := 437) (by decide +kernel)⟩
theorem lw_p3 : lw_okq (⟨"WhoseHare$Reader", "scanNumber", "()V"⟩, 11) := ⟨⟨by decide +kernel, by decide +kernel⟩, List.mem_of_getElem? (i := 104) (by decide +kernel), List.mem_of_getElem? (i := 492) (by decide +kernel), List.mem_of_getElem? (i := 493) (by decide +kernel)⟩
theorem lw_p4 : lw_okq (⟨"WhoseHare$Reader", "expect", "(I)V"⟩, 11) := ⟨⟨by decide +kernel, by decide +kernel⟩, List.mem_of_getElem? (i := 104) (by decide +kernel), List.mem_of_getElem? (i := 499) (by decide +kernel), List.mem_of_getElem? (i := 500) (by decide +kernel)⟩
theorem lw_p5 : lw_okq (⟨"WhoseHare$Reader", "sees", "(I)Z"⟩, 11) := ⟨⟨by decide +kernel, by decide +kernel⟩, List.mem_of_getElem? (i := 104) (by decide +kernel), List.mem_of_getElem? (i := 503) (by decide +kernel), List.mem_of_getElem? (i := 504) (by decide +kernel)⟩
theorem lw_p6 : lw_okq (⟨"WhoseHare$Reader", "fail", "()V"⟩, 11) := ⟨⟨by decide +kernel, by decide +kernel⟩, List.mem_of_getElem? (i := 104) (by decide +kernel), List.mem_of_getElem? (i := 507) (by decide +kernel), List.mem_of_getElem? (i := 508) (by decide +kernel)⟩
theorem lw_p7 : lw_okq (⟨"WhoseHare$Reader", "readEither", "()V"⟩, 11) := ⟨⟨by decide +kernel, by decide +kernel⟩, List.mem_of_getElem? (i := 104) (by decide +kernel), List.mem_of_getElem? (i := 511) (by decide +kernel), List.mem_of_getElem? (i := 512) (by decide +kernel)⟩
theorem lw_p8 : lw_okq (⟨"WhoseHare$Reader", "readBoth", "()V"⟩, 11) := ⟨⟨by decide +kernel, by decide +kernel⟩, List.mem_of_getElem? (i := 104) (by decide +kernel), List.mem_of_getElem? (i := 515) (by decide +kernel), List.mem_of_getElem? (i := 516) (by decide +kernel)⟩
theorem lw_p9 : lw_okq (⟨"WhoseHare$Reader", "readNot", "()V"⟩, 11) := ⟨⟨by decide +kernel, by decide +kernel⟩, List.mem_of_getElem? (i := 104) (by decide +kernel), List.mem_of_getElem? (i := 519) (by decide +kernel), List.mem_of_getElem? (i := 520) (by decide +kernel)⟩
theorem lw_p10 : lw_okq (⟨"WhoseHare$Reader", "readCompared", "()V"⟩, 11) := ⟨⟨by decide +kernel, by decide +kernel⟩, List.mem_of_getElem? (i := 104) (by decide +kernel), List.mem_of_getElem? (i := 523) (by decide +kernel), List.mem_of_getElem? (i := 524) (by decide +kernel)⟩
theorem lw_p11 : lw_okq (⟨"WhoseHare$Reader", "readSum", "()V"⟩, 11) := ⟨⟨by decide +kernel, by decide +kernel⟩, List.mem_of_getElem? (i := 104) (by decide +kernel), List.mem_of_getElem? (i := 527) (by decide +kernel), List.mem_of_getElem? (i := 528) (by decide +kernel)⟩
theorem lw_p12 : lw_okq (⟨"WhoseHare$Reader", "readTerm", "()V"⟩, 11) := ⟨⟨by decide +kernel, by decide +kernel⟩, List.mem_of_getElem? (i := 104) (by decide +kernel), List.mem_of_getElem? (i := 531) (by decide +kernel), List.mem_of_getElem? (i := 532) (by decide +kernel)⟩
theorem lw_p13 : lw_okq (⟨"WhoseHare$Reader", "readOne", "()V"⟩, 11) := ⟨⟨by decide +kernel, by decide +kernel⟩, List.mem_of_getElem? (i := 104) (by decide +kernel), List.mem_of_getElem? (i := 535) (by decide +kernel), List.mem_of_getElem? (i := 536) (by decide +kernel)⟩
theorem lw_p14 : lw_okq (⟨"WhoseHare$Reader", "put", "(I)V"⟩, 11) := ⟨⟨by decide +kernel, by decide +kernel⟩, List.mem_of_getElem? (i := 104) (by decide +kernel), List.mem_of_getElem? (i := 539) (by decide +kernel), List.mem_of_getElem? (i := 540) (by decide +kernel)⟩
theorem lw_p15 : lw_okq (⟨"WhoseHare$Reader", "opens", "()Z"⟩, 11) := ⟨⟨by decide +kernel, by decide +kernel⟩, List.mem_of_getElem? (i := 104) (by decide +kernel), List.mem_of_getElem? (i := 543) (by decide +kernel), List.mem_of_getElem? (i := 544) (by decide +kernel)⟩
def lw_privs_1 : List (MethodName × Nat) := [(⟨"WhoseHare$Reader", "scan", "()V"⟩, 11), (⟨"WhoseHare$Reader", "scanWord", "()V"⟩, 11), (⟨"WhoseHare$Reader", "numberOfWord", "()I"⟩, 11), (⟨"WhoseHare$Reader", "scanNumber", "()V"⟩, 11), (⟨"WhoseHare$Reader", "expect", "(I)V"⟩, 11), (⟨"WhoseHare$Reader", "sees", "(I)Z"⟩, 11), (⟨"WhoseHare$Reader", "fail", "()V"⟩, 11), (⟨"WhoseHare$Reader", "readEither", "()V"⟩, 11), (⟨"WhoseHare$Reader", "readBoth", "()V"⟩, 11), (⟨"WhoseHare$Reader", "readNot", "()V"⟩, 11), (⟨"WhoseHare$Reader", "readCompared", "()V"⟩, 11), (⟨"WhoseHare$Reader", "readSum", "()V"⟩, 11), (⟨"WhoseHare$Reader", "readTerm", "()V"⟩, 11), (⟨"WhoseHare$Reader", "readOne", "()V"⟩, 11), (⟨"WhoseHare$Reader", "put", "(I)V"⟩, 11), (⟨"WhoseHare$Reader", "opens", "()Z"⟩, 11)]
theorem lw_r1 : ∀ q ∈ lw_privs_1, lw_okq q := List.forall_mem_cons.mpr ⟨lw_p0, List.forall_mem_cons.mpr ⟨lw_p1, List.forall_mem_cons.mpr ⟨lw_p2, List.forall_mem_cons.mpr ⟨lw_p3, List.forall_mem_cons.mpr ⟨lw_p4, List.forall_mem_cons.mpr ⟨lw_p5, List.forall_mem_cons.mpr ⟨lw_p6, List.forall_mem_cons.mpr ⟨lw_p7, List.forall_mem_cons.mpr ⟨lw_p8, List.forall_mem_cons.mpr ⟨lw_p9, List.forall_mem_cons.mpr ⟨lw_p10, List.forall_mem_cons.mpr ⟨lw_p11, List.forall_mem_cons.mpr ⟨lw_p12, List.forall_mem_cons.mpr ⟨lw_p13, List.forall_mem_cons.mpr ⟨lw_p14, List.forall_mem_cons.mpr ⟨lw_p15, fun _ h => absurd h List.not_mem_nil⟩⟩⟩⟩⟩⟩⟩⟩⟩⟩⟩⟩⟩⟩⟩⟩
theorem lw_p16 : lw_okq (⟨"WhoseHare", "useText", "(I)V"⟩, 10) := ⟨⟨by decide +kernel, by decide +kernel⟩, List.mem_of_getElem? (i := 20) (by decide +kernel), List.mem_of_getElem? (i := 579) (by decide +kernel), List.mem_of_getElem? (i := 580) (by decide +kernel)⟩
theorem lw_p17 : lw_okq (⟨"WhoseHare$Scene", "make", "(IIIII)V"⟩, 20) := ⟨⟨by decide +kernel, by decide +kernel⟩, List.mem_of_getElem? (i := 180) (by decide +kernel), List.mem_of_getElem? (i := 629) (by decide +kernel), List.mem_of_getElem? (i := 630) (by decide +kernel)⟩
theorem lw_p18 : lw_okq (⟨"WhoseHare$Scene", "makeForGround", "(II)V"⟩, 20) := ⟨⟨by decide +kernel, by decide +kernel⟩, List.mem_of_getElem? (i := 180) (by decide +kernel), List.mem_of_getElem? (i := 633) (by decide +kernel), List.mem_of_getElem? (i := 634) (by decide +kernel)⟩
theorem lw_p19 : lw_okq (⟨"WhoseHare$Scene", "makeOfLiving", "(IIIII)V"⟩, 20) := ⟨⟨by decide +kernel, by decide +kernel⟩, List.mem_of_getElem? (i := 180) (by decide +kernel), List.mem_of_getElem? (i := 643) (by decide +kernel), List.mem_of_getElem? (i := 644) (by decide +kernel)⟩
theorem lw_p20 : lw_okq (⟨"WhoseHare$Scene", "lose", "(III)V"⟩, 20) := ⟨⟨by decide +kernel, by decide +kernel⟩, List.mem_of_getElem? (i := 180) (by decide +kernel), List.mem_of_getElem? (i := 647) (by decide +kernel), List.mem_of_getElem? (i := 648) (by decide +kernel)⟩
theorem lw_p21 : lw_okq (⟨"WhoseHare$Scene", "cross", "(III)V"⟩, 20) := ⟨⟨by decide +kernel, by decide +kernel⟩, List.mem_of_getElem? (i := 180) (by decide +kernel), List.mem_of_getElem? (i := 651) (by decide +kernel), List.mem_of_getElem? (i := 652) (by decide +kernel)⟩
theorem lw_p22 : lw_okq (⟨"WhoseHare$Scene", "kill", "(II)V"⟩, 20) := ⟨⟨by decide +kernel, by decide +kernel⟩, List.mem_of_getElem? (i := 180) (by decide +kernel), List.mem_of_getElem? (i := 655) (by decide +kernel), List.mem_of_getElem? (i := 656) (by decide +kernel)⟩
theorem lw_p23 : lw_okq (⟨"WhoseHare$Scene", "yields", "(I)Z"⟩, 20) := ⟨⟨by decide +kernel, by decide +kernel⟩, List.mem_of_getElem? (i := 180) (by decide +kernel), List.mem_of_getElem? (i := 659) (by decide +kernel), List.mem_of_getElem? (i := 660) (by decide +kernel)⟩
theorem lw_p24 : lw_okq (⟨"WhoseHare$Scene", "letGo", "(II)V"⟩, 20) := ⟨⟨by decide +kernel, by decide +kernel⟩, List.mem_of_getElem? (i := 180) (by decide +kernel), List.mem_of_getElem? (i := 663) (by decide +kernel), List.mem_of_getElem? (i := 664) (by decide +kernel)⟩
theorem lw_p25 : lw_okq (⟨"WhoseHare$Scene", "isHoldOf", "(II)Z"⟩, 20) := ⟨⟨by decide +kernel, by decide +kernel⟩, List.mem_of_getElem? (i := 180) (by decide +kernel), List.mem_of_getElem? (i := 667) (by decide +kernel), List.mem_of_getElem? (i := 668) (by decide +kernel)⟩
theorem lw_p26 : lw_okq (⟨"WhoseHare$Scene", "give", "(III)V"⟩, 20) := ⟨⟨by decide +kernel, by decide +kernel⟩, List.mem_of_getElem? (i := 180) (by decide +kernel), List.mem_of_getElem? (i := 671) (by decide +kernel), List.mem_of_getElem? (i := 672) (by decide +kernel)⟩
theorem lw_p27 : lw_okq (⟨"WhoseHare$Scene", "isLostForLong", "(I)Z"⟩, 20) := ⟨⟨by decide +kernel, by decide +kernel⟩, List.mem_of_getElem? (i := 180) (by decide +kernel), List.mem_of_getElem? (i := 688) (by decide +kernel), List.mem_of_getElem? (i := 689) (by decide +kernel)⟩
theorem lw_p28 : lw_okq (⟨"WhoseHare$Scene", "isOnItsPlace", "(I)Z"⟩, 20) := ⟨⟨by decide +kernel, by decide +kernel⟩, List.mem_of_getElem? (i := 180) (by decide +kernel), List.mem_of_getElem? (i := 692) (by decide +kernel), List.mem_of_getElem? (i := 693) (by decide +kernel)⟩
theorem lw_p29 : lw_okq (⟨"WhoseHare$Scene", "isHeld", "(I)Z"⟩, 20) := ⟨⟨by decide +kernel, by decide +kernel⟩, List.mem_of_getElem? (i := 180) (by decide +kernel), List.mem_of_getElem? (i := 696) (by decide +kernel), List.mem_of_getElem? (i := 697) (by decide +kernel)⟩
theorem lw_p30 : lw_okq (⟨"WhoseHare", "beastTaken", "(II)I"⟩, 10) := ⟨⟨by decide +kernel, by decide +kernel⟩, List.mem_of_getElem? (i := 20) (by decide +kernel), List.mem_of_getElem? (i := 862) (by decide +kernel), List.mem_of_getElem? (i := 863) (by decide +kernel)⟩
theorem lw_p31 : lw_okq (⟨"WhoseHare", "claimTaken", "(II)I"⟩, 10) := ⟨⟨by decide +kernel, by decide +kernel⟩, List.mem_of_getElem? (i := 20) (by decide +kernel), List.mem_of_getElem? (i := 866) (by decide +kernel), List.mem_of_getElem? (i := 867) (by decide +kernel)⟩
def lw_privs_2 : List (MethodName × Nat) := [(⟨"WhoseHare", "useText", "(I)V"⟩, 10), (⟨"WhoseHare$Scene", "make", "(IIIII)V"⟩, 20), (⟨"WhoseHare$Scene", "makeForGround", "(II)V"⟩, 20), (⟨"WhoseHare$Scene", "makeOfLiving", "(IIIII)V"⟩, 20), (⟨"WhoseHare$Scene", "lose", "(III)V"⟩, 20), (⟨"WhoseHare$Scene", "cross", "(III)V"⟩, 20), (⟨"WhoseHare$Scene", "kill", "(II)V"⟩, 20), (⟨"WhoseHare$Scene", "yields", "(I)Z"⟩, 20), (⟨"WhoseHare$Scene", "letGo", "(II)V"⟩, 20), (⟨"WhoseHare$Scene", "isHoldOf", "(II)Z"⟩, 20), (⟨"WhoseHare$Scene", "give", "(III)V"⟩, 20), (⟨"WhoseHare$Scene", "isLostForLong", "(I)Z"⟩, 20), (⟨"WhoseHare$Scene", "isOnItsPlace", "(I)Z"⟩, 20), (⟨"WhoseHare$Scene", "isHeld", "(I)Z"⟩, 20), (⟨"WhoseHare", "beastTaken", "(II)I"⟩, 10), (⟨"WhoseHare", "claimTaken", "(II)I"⟩, 10)]
theorem lw_r2 : ∀ q ∈ lw_privs_2, lw_okq q := List.forall_mem_cons.mpr ⟨lw_p16, List.forall_mem_cons.mpr ⟨lw_p17, List.forall_mem_cons.mpr ⟨lw_p18, List.forall_mem_cons.mpr ⟨lw_p19, List.forall_mem_cons.mpr ⟨lw_p20, List.forall_mem_cons.mpr ⟨lw_p21, List.forall_mem_cons.mpr ⟨lw_p22, List.forall_mem_cons.mpr ⟨lw_p23, List.forall_mem_cons.mpr ⟨lw_p24, List.forall_mem_cons.mpr ⟨lw_p25, List.forall_mem_cons.mpr ⟨lw_p26, List.forall_mem_cons.mpr ⟨lw_p27, List.forall_mem_cons.mpr ⟨lw_p28, List.forall_mem_cons.mpr ⟨lw_p29, List.forall_mem_cons.mpr ⟨lw_p30, List.forall_mem_cons.mpr ⟨lw_p31, fun _ h => absurd h List.not_mem_nil⟩⟩⟩⟩⟩⟩⟩⟩⟩⟩⟩⟩⟩⟩⟩⟩
theorem lw_p32 : lw_okq (⟨"WhoseHareModel", "first", "(IIIII)V"⟩, 51) := ⟨⟨by decide +kernel, by decide +kernel⟩, List.mem_of_getElem? (i := 876) (by decide +kernel), List.mem_of_getElem? (i := 894) (by decide +kernel), List.mem_of_getElem? (i := 895) (by decide +kernel)⟩
theorem lw_p33 : lw_okq (⟨"WhoseHareModel", "isGround", "(I)Z"⟩, 51) := ⟨⟨by decide +kernel, by decide +kernel⟩, List.mem_of_getElem? (i := 876) (by decide +kernel), List.mem_of_getElem? (i := 1066) (by decide +kernel), List.mem_of_getElem? (i := 1067) (by decide +kernel)⟩
theorem lw_p34 : lw_okq (⟨"WhoseHareModel", "isBeast", "(I)Z"⟩, 51) := ⟨⟨by decide +kernel, by decide +kernel⟩, List.mem_of_getElem? (i := 876) (by decide +kernel), List.mem_of_getElem? (i := 1078) (by decide +kernel), List.mem_of_getElem? (i := 1079) (by decide +kernel)⟩
theorem lw_p35 : lw_okq (⟨"WhoseHareModel", "isMoment", "(I)Z"⟩, 51) := ⟨⟨by decide +kernel, by decide +kernel⟩, List.mem_of_getElem? (i := 876) (by decide +kernel), List.mem_of_getElem? (i := 1090) (by decide +kernel), List.mem_of_getElem? (i := 1091) (by decide +kernel)⟩
theorem lw_p36 : lw_okq (⟨"WhoseHareModel", "unsureMany", "()I"⟩, 51) := ⟨⟨by decide +kernel, by decide +kernel⟩, List.mem_of_getElem? (i := 876) (by decide +kernel), List.mem_of_getElem? (i := 1094) (by decide +kernel), List.mem_of_getElem? (i := 1095) (by decide +kernel)⟩
theorem lw_p37 : lw_okq (⟨"WhoseHareModel", "next", "()V"⟩, 51) := ⟨⟨by decide +kernel, by decide +kernel⟩, List.mem_of_getElem? (i := 876) (by decide +kernel), List.mem_of_getElem? (i := 1111) (by decide +kernel), List.mem_of_getElem? (i := 1112) (by decide +kernel)⟩
theorem lw_p38 : lw_okq (⟨"WhoseHareModel", "letters", "()J"⟩, 51) := ⟨⟨by decide +kernel, by decide +kernel⟩, List.mem_of_getElem? (i := 876) (by decide +kernel), List.mem_of_getElem? (i := 1115) (by decide +kernel), List.mem_of_getElem? (i := 1116) (by decide +kernel)⟩
theorem lw_p39 : lw_okq (⟨"WhoseHareModel", "eRead", "()Z"⟩, 51) := ⟨⟨by decide +kernel, by decide +kernel⟩, List.mem_of_getElem? (i := 876) (by decide +kernel), List.mem_of_getElem? (i := 1119) (by decide +kernel), List.mem_of_getElem? (i := 1120) (by decide +kernel)⟩
theorem lw_p40 : lw_okq (⟨"WhoseHareModel", "puts", "(I)V"⟩, 51) := ⟨⟨by decide +kernel, by decide +kernel⟩, List.mem_of_getElem? (i := 876) (by decide +kernel), List.mem_of_getElem? (i := 1124) (by decide +kernel), List.mem_of_getElem? (i := 1125) (by decide +kernel)⟩
theorem lw_p41 : lw_okq (⟨"WhoseHareModel", "unwinds", "(I)V"⟩, 51) := ⟨⟨by decide +kernel, by decide +kernel⟩, List.mem_of_getElem? (i := 876) (by decide +kernel), List.mem_of_getElem? (i := 1128) (by decide +kernel), List.mem_of_getElem? (i := 1129) (by decide +kernel)⟩
theorem lw_p42 : lw_okq (⟨"WhoseHareModel", "opensOne", "(I)Z"⟩, 51) := ⟨⟨by decide +kernel, by decide +kernel⟩, List.mem_of_getElem? (i := 876) (by decide +kernel), List.mem_of_getElem? (i := 1135) (by decide +kernel), List.mem_of_getElem? (i := 1136) (by decide +kernel)⟩
theorem lw_p43 : lw_okq (⟨"WhoseHareModel", "holds", "(I)V"⟩, 51) := ⟨⟨by decide +kernel, by decide +kernel⟩, List.mem_of_getElem? (i := 876) (by decide +kernel), List.mem_of_getElem? (i := 1139) (by decide +kernel), List.mem_of_getElem? (i := 1140) (by decide +kernel)⟩
theorem lw_p44 : lw_okq (⟨"WhoseHareModel", "signOf", "()I"⟩, 51) := ⟨⟨by decide +kernel, by decide +kernel⟩, List.mem_of_getElem? (i := 876) (by decide +kernel), List.mem_of_getElem? (i := 1143) (by decide +kernel), List.mem_of_getElem? (i := 1144) (by decide +kernel)⟩
theorem lw_p45 : lw_okq (⟨"WhoseHareModel", "between", "(I)Z"⟩, 51) := ⟨⟨by decide +kernel, by decide +kernel⟩, List.mem_of_getElem? (i := 876) (by decide +kernel), List.mem_of_getElem? (i := 1147) (by decide +kernel), List.mem_of_getElem? (i := 1148) (by decide +kernel)⟩
theorem lw_p46 : lw_okq (⟨"WhoseHareModel", "mayFollow", "(III)Z"⟩, 51) := ⟨⟨by decide +kernel, by decide +kernel⟩, List.mem_of_getElem? (i := 876) (by decide +kernel), List.mem_of_getElem? (i := 1159) (by decide +kernel), List.mem_of_getElem? (i := 1160) (by decide +kernel)⟩
theorem lw_p47 : lw_okq (⟨"WhoseHareModel", "names", "(IIIIII)V"⟩, 51) := ⟨⟨by decide +kernel, by decide +kernel⟩, List.mem_of_getElem? (i := 876) (by decide +kernel), List.mem_of_getElem? (i := 1163) (by decide +kernel), List.mem_of_getElem? (i := 1164) (by decide +kernel)⟩
def lw_privs_3 : List (MethodName × Nat) := [(⟨"WhoseHareModel", "first", "(IIIII)V"⟩, 51), (⟨"WhoseHareModel", "isGround", "(I)Z"⟩, 51), (⟨"WhoseHareModel", "isBeast", "(I)Z"⟩, 51), (⟨"WhoseHareModel", "isMoment", "(I)Z"⟩, 51), (⟨"WhoseHareModel", "unsureMany", "()I"⟩, 51), (⟨"WhoseHareModel", "next", "()V"⟩, 51), (⟨"WhoseHareModel", "letters", "()J"⟩, 51), (⟨"WhoseHareModel", "eRead", "()Z"⟩, 51), (⟨"WhoseHareModel", "puts", "(I)V"⟩, 51), (⟨"WhoseHareModel", "unwinds", "(I)V"⟩, 51), (⟨"WhoseHareModel", "opensOne", "(I)Z"⟩, 51), (⟨"WhoseHareModel", "holds", "(I)V"⟩, 51), (⟨"WhoseHareModel", "signOf", "()I"⟩, 51), (⟨"WhoseHareModel", "between", "(I)Z"⟩, 51), (⟨"WhoseHareModel", "mayFollow", "(III)Z"⟩, 51), (⟨"WhoseHareModel", "names", "(IIIIII)V"⟩, 51)]
theorem lw_r3 : ∀ q ∈ lw_privs_3, lw_okq q := List.forall_mem_cons.mpr ⟨lw_p32, List.forall_mem_cons.mpr ⟨lw_p33, List.forall_mem_cons.mpr ⟨lw_p34, List.forall_mem_cons.mpr ⟨lw_p35, List.forall_mem_cons.mpr ⟨lw_p36, List.forall_mem_cons.mpr ⟨lw_p37, List.forall_mem_cons.mpr ⟨lw_p38, List.forall_mem_cons.mpr ⟨lw_p39, List.forall_mem_cons.mpr ⟨lw_p40, List.forall_mem_cons.mpr ⟨lw_p41, List.forall_mem_cons.mpr ⟨lw_p42, List.forall_mem_cons.mpr ⟨lw_p43, List.forall_mem_cons.mpr ⟨lw_p44, List.forall_mem_cons.mpr ⟨lw_p45, List.forall_mem_cons.mpr ⟨lw_p46, List.forall_mem_cons.mpr ⟨lw_p47, fun _ h => absurd h List.not_mem_nil⟩⟩⟩⟩⟩⟩⟩⟩⟩⟩⟩⟩⟩⟩⟩⟩
theorem lw_p48 : lw_okq (⟨"WhoseHareModel", "worth", "(I)I"⟩, 51) := ⟨⟨by decide +kernel, by decide +kernel⟩, List.mem_of_getElem? (i := 876) (by decide +kernel), List.mem_of_getElem? (i := 1167) (by decide +kernel), List.mem_of_getElem? (i := 1168) (by decide +kernel)⟩
theorem lw_p49 : lw_okq (⟨"WhoseHareModel", "works", "(II)V"⟩, 51) := ⟨⟨by decide +kernel, by decide +kernel⟩, List.mem_of_getElem? (i := 876) (by decide +kernel), List.mem_of_getElem? (i := 1178) (by decide +kernel), List.mem_of_getElem? (i := 1179) (by decide +kernel)⟩
theorem lw_p50 : lw_okq (⟨"WhoseHareModel", "makes", "(IIIIII)V"⟩, 51) := ⟨⟨by decide +kernel, by decide +kernel⟩, List.mem_of_getElem? (i := 876) (by decide +kernel), List.mem_of_getElem? (i := 1182) (by decide +kernel), List.mem_of_getElem? (i := 1183) (by decide +kernel)⟩
theorem lw_p51 : lw_okq (⟨"WhoseHareModel", "passes", "(I)V"⟩, 51) := ⟨⟨by decide +kernel, by decide +kernel⟩, List.mem_of_getElem? (i := 876) (by decide +kernel), List.mem_of_getElem? (i := 1186) (by decide +kernel), List.mem_of_getElem? (i := 1187) (by decide +kernel)⟩
theorem lw_p52 : lw_okq (⟨"WhoseHareModel", "crosses", "(III)V"⟩, 51) := ⟨⟨by decide +kernel, by decide +kernel⟩, List.mem_of_getElem? (i := 876) (by decide +kernel), List.mem_of_getElem? (i := 1190) (by decide +kernel), List.mem_of_getElem? (i := 1191) (by decide +kernel)⟩
theorem lw_p53 : lw_okq (⟨"WhoseHareModel", "isHeldBy", "(III)Z"⟩, 51) := ⟨⟨by decide +kernel, by decide +kernel⟩, List.mem_of_getElem? (i := 876) (by decide +kernel), List.mem_of_getElem? (i := 1194) (by decide +kernel), List.mem_of_getElem? (i := 1195) (by decide +kernel)⟩
theorem lw_p54 : lw_okq (⟨"WhoseHareModel", "stands", "(I)Z"⟩, 51) := ⟨⟨by decide +kernel, by decide +kernel⟩, List.mem_of_getElem? (i := 876) (by decide +kernel), List.mem_of_getElem? (i := 1202) (by decide +kernel), List.mem_of_getElem? (i := 1203) (by decide +kernel)⟩
theorem lw_p55 : lw_okq (⟨"WhoseHareModel", "isHeld", "(I)Z"⟩, 51) := ⟨⟨by decide +kernel, by decide +kernel⟩, List.mem_of_getElem? (i := 876) (by decide +kernel), List.mem_of_getElem? (i := 1206) (by decide +kernel), List.mem_of_getElem? (i := 1207) (by decide +kernel)⟩
theorem lw_p56 : lw_okq (⟨"WhoseHareModel", "weight", "(I)I"⟩, 51) := ⟨⟨by decide +kernel, by decide +kernel⟩, List.mem_of_getElem? (i := 876) (by decide +kernel), List.mem_of_getElem? (i := 1210) (by decide +kernel), List.mem_of_getElem? (i := 1211) (by decide +kernel)⟩
theorem lw_p57 : lw_okq (⟨"WhoseHareModel", "worthOf", "(I)I"⟩, 51) := ⟨⟨by decide +kernel, by decide +kernel⟩, List.mem_of_getElem? (i := 876) (by decide +kernel), List.mem_of_getElem? (i := 1214) (by decide +kernel), List.mem_of_getElem? (i := 1215) (by decide +kernel)⟩
theorem lw_p58 : lw_okq (⟨"WhoseHareModel", "whose", "(I)I"⟩, 51) := ⟨⟨by decide +kernel, by decide +kernel⟩, List.mem_of_getElem? (i := 876) (by decide +kernel), List.mem_of_getElem? (i := 1222) (by decide +kernel), List.mem_of_getElem? (i := 1223) (by decide +kernel)⟩
theorem lw_p59 : lw_okq (⟨"WhoseHareModel", "winner", "(I)I"⟩, 51) := ⟨⟨by decide +kernel, by decide +kernel⟩, List.mem_of_getElem? (i := 876) (by decide +kernel), List.mem_of_getElem? (i := 1226) (by decide +kernel), List.mem_of_getElem? (i := 1227) (by decide +kernel)⟩
theorem lw_p60 : lw_okq (⟨"WhoseHareModel", "nobodyOf", "(I)I"⟩, 51) := ⟨⟨by decide +kernel, by decide +kernel⟩, List.mem_of_getElem? (i := 876) (by decide +kernel), List.mem_of_getElem? (i := 1242) (by decide +kernel), List.mem_of_getElem? (i := 1243) (by decide +kernel)⟩
theorem lw_p61 : lw_okq (⟨"WhoseHareModel", "whoseWithout", "(II)I"⟩, 51) := ⟨⟨by decide +kernel, by decide +kernel⟩, List.mem_of_getElem? (i := 876) (by decide +kernel), List.mem_of_getElem? (i := 1254) (by decide +kernel), List.mem_of_getElem? (i := 1255) (by decide +kernel)⟩
theorem lw_p62 : lw_okq (⟨"WhoseHareModel", "without", "(I)I"⟩, 51) := ⟨⟨by decide +kernel, by decide +kernel⟩, List.mem_of_getElem? (i := 876) (by decide +kernel), List.mem_of_getElem? (i := 1258) (by decide +kernel), List.mem_of_getElem? (i := 1259) (by decide +kernel)⟩
theorem lw_p63 : lw_okq (⟨"WhoseHareModel", "quarrels", "(I)I"⟩, 51) := ⟨⟨by decide +kernel, by decide +kernel⟩, List.mem_of_getElem? (i := 876) (by decide +kernel), List.mem_of_getElem? (i := 1285) (by decide +kernel), List.mem_of_getElem? (i := 1286) (by decide +kernel)⟩
def lw_privs_4 : List (MethodName × Nat) := [(⟨"WhoseHareModel", "worth", "(I)I"⟩, 51), (⟨"WhoseHareModel", "works", "(II)V"⟩, 51), (⟨"WhoseHareModel", "makes", "(IIIIII)V"⟩, 51), (⟨"WhoseHareModel", "passes", "(I)V"⟩, 51), (⟨"WhoseHareModel", "crosses", "(III)V"⟩, 51), (⟨"WhoseHareModel", "isHeldBy", "(III)Z"⟩, 51), (⟨"WhoseHareModel", "stands", "(I)Z"⟩, 51), (⟨"WhoseHareModel", "isHeld", "(I)Z"⟩, 51), (⟨"WhoseHareModel", "weight", "(I)I"⟩, 51), (⟨"WhoseHareModel", "worthOf", "(I)I"⟩, 51), (⟨"WhoseHareModel", "whose", "(I)I"⟩, 51), (⟨"WhoseHareModel", "winner", "(I)I"⟩, 51), (⟨"WhoseHareModel", "nobodyOf", "(I)I"⟩, 51), (⟨"WhoseHareModel", "whoseWithout", "(II)I"⟩, 51), (⟨"WhoseHareModel", "without", "(I)I"⟩, 51), (⟨"WhoseHareModel", "quarrels", "(I)I"⟩, 51)]
theorem lw_r4 : ∀ q ∈ lw_privs_4, lw_okq q := List.forall_mem_cons.mpr ⟨lw_p48, List.forall_mem_cons.mpr ⟨lw_p49, List.forall_mem_cons.mpr ⟨lw_p50, List.forall_mem_cons.mpr ⟨lw_p51, List.forall_mem_cons.mpr ⟨lw_p52, List.forall_mem_cons.mpr ⟨lw_p53, List.forall_mem_cons.mpr ⟨lw_p54, List.forall_mem_cons.mpr ⟨lw_p55, List.forall_mem_cons.mpr ⟨lw_p56, List.forall_mem_cons.mpr ⟨lw_p57, List.forall_mem_cons.mpr ⟨lw_p58, List.forall_mem_cons.mpr ⟨lw_p59, List.forall_mem_cons.mpr ⟨lw_p60, List.forall_mem_cons.mpr ⟨lw_p61, List.forall_mem_cons.mpr ⟨lw_p62, List.forall_mem_cons.mpr ⟨lw_p63, fun _ h => absurd h List.not_mem_nil⟩⟩⟩⟩⟩⟩⟩⟩⟩⟩⟩⟩⟩⟩⟩⟩
theorem lw_p64 : lw_okq (⟨"WhoseHareModel", "doQuarrel", "(I)Z"⟩, 51) := ⟨⟨by decide +kernel, by decide +kernel⟩, List.mem_of_getElem? (i := 876) (by decide +kernel), List.mem_of_getElem? (i := 1289) (by decide +kernel), List.mem_of_getElem? (i := 1290) (by decide +kernel)⟩
def lw_privs_5 : List (MethodName × Nat) := [(⟨"WhoseHareModel", "doQuarrel", "(I)Z"⟩, 51)]
theorem lw_r5 : ∀ q ∈ lw_privs_5, lw_okq q := List.forall_mem_cons.mpr ⟨lw_p64, fun _ h => absurd h List.not_mem_nil⟩
def lw_privs : List (MethodName × Nat) := lw_privs_1 ++ (lw_privs_2 ++ (lw_privs_3 ++ (lw_privs_4 ++ (lw_privs_5))))
def lw_tbl : List Cond := k2_sels lw_privs ++ tables_1
theorem lw_privs_ok : ∀ q ∈ lw_privs, lw_okq q := by
  show ∀ q ∈ lw_privs_1 ++ (lw_privs_2 ++ (lw_privs_3 ++ (lw_privs_4 ++ (lw_privs_5)))), lw_okq q
  exact List.forall_mem_append.mpr ⟨lw_r1, List.forall_mem_append.mpr ⟨lw_r2, List.forall_mem_append.mpr ⟨lw_r3, List.forall_mem_append.mpr ⟨lw_r4, lw_r5⟩⟩⟩⟩
def R_Land : String := "WhoseHare$Land"
def T_Land : u_T := fun k => match k with
  | 0 => ("WhoseHare$Land", "owner", "[I", true)
  | 1 => ("WhoseHare$Land", "home", "[I", true)
  | 2 => ("WhoseHare$Land", "keeper", "[I", true)
  | 3 => ("WhoseHare$Land", "grounds", "I", false)
  | _ => ("WhoseHare$Land", "beasts", "I", false)
def t_Land : Nat → FieldType := fun k => match k with
  | 0 => .array .int
  | 1 => .array .int
  | 2 => .array .int
  | 3 => .int
  | _ => .int

def R_Diary : String := "WhoseHare$Diary"
def T_Diary : u_T := fun k => match k with
  | 0 => ("WhoseHare$Diary", "time", "[I", true)
  | 1 => ("WhoseHare$Diary", "what", "[I", true)
  | 2 => ("WhoseHare$Diary", "beast", "[I", true)
  | 3 => ("WhoseHare$Diary", "by", "[I", true)
  | 4 => ("WhoseHare$Diary", "number", "[I", true)
  | 5 => ("WhoseHare$Diary", "unsure", "[I", true)
  | _ => ("WhoseHare$Diary", "size", "I", false)
def t_Diary : Nat → FieldType := fun k => match k with
  | 0 => .array .int
  | 1 => .array .int
  | 2 => .array .int
  | 3 => .array .int
  | 4 => .array .int
  | 5 => .array .int
  | _ => .int

def R_Reader : String := "WhoseHare$Reader"
def T_Reader : u_T := fun k => match k with
  | 0 => ("WhoseHare$Reader", "tape", "[B", true)
  | 1 => ("WhoseHare$Reader", "size", "I", false)
  | 2 => ("WhoseHare$Reader", "fault", "I", false)
  | 3 => ("WhoseHare$Reader", "code", "[I", true)
  | 4 => ("WhoseHare$Reader", "codeSize", "I", false)
  | 5 => ("WhoseHare$Reader", "worthSize", "I", false)
  | 6 => ("WhoseHare$Reader", "token", "I", false)
  | 7 => ("WhoseHare$Reader", "tokenPlace", "I", false)
  | 8 => ("WhoseHare$Reader", "tokenCode", "I", false)
  | 9 => ("WhoseHare$Reader", "next", "I", false)
  | _ => ("WhoseHare$Reader", "open", "I", false)
def t_Reader : Nat → FieldType := fun k => match k with
  | 0 => .array .byte
  | 1 => .int
  | 2 => .int
  | 3 => .array .int
  | 4 => .int
  | 5 => .int
  | 6 => .int
  | 7 => .int
  | 8 => .int
  | 9 => .int
  | _ => .int

def R_Scales : String := "WhoseHare$Scales"
def T_Scales : u_T := fun k => match k with
  | 0 => ("WhoseHare$Scales", "names", "[I", true)
  | 1 => ("WhoseHare$Scales", "stack", "[I", true)
  | _ => ("WhoseHare$Scales", "text", "LWhoseHare$Text;", false)
def t_Scales : Nat → FieldType := fun k => match k with
  | 0 => .array .int
  | 1 => .array .int
  | _ => .object "WhoseHare$Text"

def R_Scene : String := "WhoseHare$Scene"
def T_Scene : u_T := fun k => match k with
  | 0 => ("WhoseHare$Scene", "land", "LWhoseHare$Land;", true)
  | 1 => ("WhoseHare$Scene", "diary", "LWhoseHare$Diary;", true)
  | 2 => ("WhoseHare$Scene", "scales", "LWhoseHare$Scales;", true)
  | 3 => ("WhoseHare$Scene", "kind", "[I", true)
  | 4 => ("WhoseHare$Scene", "whose", "[I", true)
  | 5 => ("WhoseHare$Scene", "beast", "[I", true)
  | 6 => ("WhoseHare$Scene", "since", "[I", true)
  | 7 => ("WhoseHare$Scene", "badly", "[I", true)
  | 8 => ("WhoseHare$Scene", "place", "[I", true)
  | 9 => ("WhoseHare$Scene", "lost", "[I", true)
  | 10 => ("WhoseHare$Scene", "ended", "[Z", true)
  | 11 => ("WhoseHare$Scene", "size", "I", false)
  | 12 => ("WhoseHare$Scene", "now", "I", false)
  | 13 => ("WhoseHare$Scene", "at", "[I", true)
  | 14 => ("WhoseHare$Scene", "away", "[I", true)
  | 15 => ("WhoseHare$Scene", "dead", "[Z", true)
  | 16 => ("WhoseHare$Scene", "best", "I", false)
  | 17 => ("WhoseHare$Scene", "disputed", "Z", false)
  | 18 => ("WhoseHare$Scene", "quarrels", "I", false)
  | _ => ("WhoseHare$Scene", "unowned", "I", false)
def t_Scene : Nat → FieldType := fun k => match k with
  | 0 => .object "WhoseHare$Land"
  | 1 => .object "WhoseHare$Diary"
  | 2 => .object "WhoseHare$Scales"
  | 3 => .array .int
  | 4 => .array .int
  | 5 => .array .int
  | 6 => .array .int
  | 7 => .array .int
  | 8 => .array .int
  | 9 => .array .int
  | 10 => .array .boolean
  | 11 => .int
  | 12 => .int
  | 13 => .array .int
  | 14 => .array .int
  | 15 => .array .boolean
  | 16 => .int
  | 17 => .boolean
  | 18 => .int
  | _ => .int

def R_Text : String := "WhoseHare$Text"
def T_Text : u_T := fun k => match k with
  | 0 => ("WhoseHare$Text", "worth", "[I", true)
  | _ => ("WhoseHare$Text", "follow", "[I", true)
def t_Text : Nat → FieldType := fun k => match k with
  | 0 => .array .int
  | _ => .array .int

def R_Sheet : String := "WhoseHare$Sheet"
def T_Sheet : u_T := fun k => match k with
  | 0 => ("WhoseHare$Sheet", "row", "[I", true)
  | 1 => ("WhoseHare$Sheet", "sort", "I", false)
  | _ => ("WhoseHare$Sheet", "size", "I", false)
def t_Sheet : Nat → FieldType := fun k => match k with
  | 0 => .array .int
  | 1 => .int
  | _ => .int

def R_Image : String := "WhoseHare$Image"
def T_Image : u_T := fun k => match k with
  | 0 => ("WhoseHare$Image", "isKept", "Z", false)
  | 1 => ("WhoseHare$Image", "law", "I", false)
  | 2 => ("WhoseHare$Image", "owner", "[I", true)
  | 3 => ("WhoseHare$Image", "unsure", "[I", true)
  | 4 => ("WhoseHare$Image", "grounds", "I", false)
  | _ => ("WhoseHare$Image", "moments", "I", false)
def t_Image : Nat → FieldType := fun k => match k with
  | 0 => .boolean
  | 1 => .int
  | 2 => .array .int
  | 3 => .array .int
  | 4 => .int
  | _ => .int

def R_Hare : String := "WhoseHare"
def T_Hare : u_T := fun k => match k with
  | 0 => ("WhoseHare", "land", "LWhoseHare$Land;", true)
  | 1 => ("WhoseHare", "diary", "LWhoseHare$Diary;", true)
  | 2 => ("WhoseHare", "reader", "LWhoseHare$Reader;", true)
  | 3 => ("WhoseHare", "scales", "LWhoseHare$Scales;", true)
  | 4 => ("WhoseHare", "scene", "LWhoseHare$Scene;", true)
  | 5 => ("WhoseHare", "texts", "[LWhoseHare$Text;", true)
  | 6 => ("WhoseHare", "sheets", "[LWhoseHare$Sheet;", true)
  | 7 => ("WhoseHare", "kept", "LWhoseHare$Image;", true)
  | 8 => ("WhoseHare", "textCount", "I", false)
  | _ => ("WhoseHare", "law", "I", false)
def t_Hare : Nat → FieldType := fun k => match k with
  | 0 => .object "WhoseHare$Land"
  | 1 => .object "WhoseHare$Diary"
  | 2 => .object "WhoseHare$Reader"
  | 3 => .object "WhoseHare$Scales"
  | 4 => .object "WhoseHare$Scene"
  | 5 => .array (.object "WhoseHare$Text")
  | 6 => .array (.object "WhoseHare$Sheet")
  | 7 => .object "WhoseHare$Image"
  | 8 => .int
  | _ => .int

def R_Model : String := "WhoseHareModel"
def T_Model : u_T := fun k => match k with
  | 0 => ("WhoseHareModel", "grounds", "I", false)
  | 1 => ("WhoseHareModel", "owner", "[I", true)
  | 2 => ("WhoseHareModel", "beasts", "I", false)
  | 3 => ("WhoseHareModel", "home", "[I", true)
  | 4 => ("WhoseHareModel", "keeper", "[I", true)
  | 5 => ("WhoseHareModel", "moments", "I", false)
  | 6 => ("WhoseHareModel", "time", "[I", true)
  | 7 => ("WhoseHareModel", "what", "[I", true)
  | 8 => ("WhoseHareModel", "momentBeast", "[I", true)
  | 9 => ("WhoseHareModel", "by", "[I", true)
  | 10 => ("WhoseHareModel", "number", "[I", true)
  | 11 => ("WhoseHareModel", "isUnsure", "[I", true)
  | 12 => ("WhoseHareModel", "tape", "[I", true)
  | 13 => ("WhoseHareModel", "taped", "I", false)
  | 14 => ("WhoseHareModel", "codes", "[I", true)
  | 15 => ("WhoseHareModel", "starts", "[I", true)
  | 16 => ("WhoseHareModel", "texts", "I", false)
  | 17 => ("WhoseHareModel", "rule", "I", false)
  | 18 => ("WhoseHareModel", "claims", "I", false)
  | 19 => ("WhoseHareModel", "kind", "[I", true)
  | 20 => ("WhoseHareModel", "who", "[I", true)
  | 21 => ("WhoseHareModel", "beastOf", "[I", true)
  | 22 => ("WhoseHareModel", "since", "[I", true)
  | 23 => ("WhoseHareModel", "badly", "[I", true)
  | 24 => ("WhoseHareModel", "placeOf", "[I", true)
  | 25 => ("WhoseHareModel", "lost", "[I", true)
  | 26 => ("WhoseHareModel", "ended", "[Z", true)
  | 27 => ("WhoseHareModel", "where", "[I", true)
  | 28 => ("WhoseHareModel", "away", "[I", true)
  | 29 => ("WhoseHareModel", "dead", "[Z", true)
  | 30 => ("WhoseHareModel", "now", "I", false)
  | 31 => ("WhoseHareModel", "hasImage", "Z", false)
  | 32 => ("WhoseHareModel", "imageGrounds", "I", false)
  | 33 => ("WhoseHareModel", "imageMoments", "I", false)
  | 34 => ("WhoseHareModel", "imageRule", "I", false)
  | 35 => ("WhoseHareModel", "imageOwner", "[I", true)
  | 36 => ("WhoseHareModel", "imageUnsure", "[I", true)
  | 37 => ("WhoseHareModel", "sheetSort", "[I", true)
  | 38 => ("WhoseHareModel", "sheetSize", "[I", true)
  | 39 => ("WhoseHareModel", "cells", "[I", true)
  | 40 => ("WhoseHareModel", "at", "I", false)
  | 41 => ("WhoseHareModel", "begun", "I", false)
  | 42 => ("WhoseHareModel", "token", "I", false)
  | 43 => ("WhoseHareModel", "value", "I", false)
  | 44 => ("WhoseHareModel", "words", "[J", true)
  | 45 => ("WhoseHareModel", "held", "[I", true)
  | 46 => ("WhoseHareModel", "heldMany", "I", false)
  | 47 => ("WhoseHareModel", "opens", "I", false)
  | 48 => ("WhoseHareModel", "out", "I", false)
  | 49 => ("WhoseHareModel", "stack", "[I", true)
  | _ => ("WhoseHareModel", "named", "[I", true)
def t_Model : Nat → FieldType := fun k => match k with
  | 0 => .int
  | 1 => .array .int
  | 2 => .int
  | 3 => .array .int
  | 4 => .array .int
  | 5 => .int
  | 6 => .array .int
  | 7 => .array .int
  | 8 => .array .int
  | 9 => .array .int
  | 10 => .array .int
  | 11 => .array .int
  | 12 => .array .int
  | 13 => .int
  | 14 => .array .int
  | 15 => .array .int
  | 16 => .int
  | 17 => .int
  | 18 => .int
  | 19 => .array .int
  | 20 => .array .int
  | 21 => .array .int
  | 22 => .array .int
  | 23 => .array .int
  | 24 => .array .int
  | 25 => .array .int
  | 26 => .array .boolean
  | 27 => .array .int
  | 28 => .array .int
  | 29 => .array .boolean
  | 30 => .int
  | 31 => .boolean
  | 32 => .int
  | 33 => .int
  | 34 => .int
  | 35 => .array .int
  | 36 => .array .int
  | 37 => .array .int
  | 38 => .array .int
  | 39 => .array .int
  | 40 => .int
  | 41 => .int
  | 42 => .int
  | 43 => .int
  | 44 => .array .long
  | 45 => .array .int
  | 46 => .int
  | 47 => .int
  | 48 => .int
  | 49 => .array .int
  | _ => .array .int

abbrev dk_cls : List vw_C := [(R_Land, T_Land, 5), (R_Diary, T_Diary, 7), (R_Reader, T_Reader, 11), (R_Scales, T_Scales, 3), (R_Scene, T_Scene, 20), (R_Text, T_Text, 2), (R_Sheet, T_Sheet, 3), (R_Image, T_Image, 6), (R_Hare, T_Hare, 10), (R_Model, T_Model, 51)]
/-! ===== J: the machine's judgement over (place, locals, stack, cells) alone: every heap that holds the cells ===== -/
theorem upd_s2 {f : Nat → Int32} {k : Nat} {x : Int32} : upd f k x k = x := by simp [upd]
theorem upd_n2 {f : Nat → Int32} {k j : Nat} {x : Int32} (h : j ≠ k) : upd f k x j = f j := by simp [upd, h]
/-- numbers of a world: by key and place -/
abbrev dk_S : Type := Nat → Nat → Int32
def dk_U (S : dk_S) (k j : Nat) (x : Int32) : dk_S := fun k' => if k' = k then upd (S k) j x else S k'
section DKF
variable {β : Type}
/-- steps of a method told as a function: what can't be done is none -/
def dk_r (n : Nat) (f : Nat → Int32) (i : Int32) (k : Int32 → Option β) : Option β := if i < 0 ∨ n ≤ i.toNatClampNeg then none else k (f i.toNatClampNeg)
def dk_rl (n : Nat) (f : Nat → Int64) (i : Int32) (k : Int64 → Option β) : Option β := if i < 0 ∨ n ≤ i.toNatClampNeg then none else k (f i.toNatClampNeg)
def dk_w (S : dk_S) (key n : Nat) (i x : Int32) (k : dk_S → Option β) : Option β := if i < 0 ∨ n ≤ i.toNatClampNeg then none else k (dk_U S key i.toNatClampNeg x)
def dk_p (S : dk_S) (key : Nat) (x : Int32) (k : dk_S → Option β) : Option β := k (dk_U S key 0 x)
def dk_b (x : Int32) (k : Option β) : Option β := if x = 0 ∨ x = 1 then k else none
def dk_c {α : Type} (o : Option (α × dk_S)) (k : α → dk_S → Option β) : Option β := match o with
  | none => none
  | some q => k q.1 q.2
def dk_cv (o : Option dk_S) (k : dk_S → Option β) : Option β := match o with
  | none => none
  | some q => k q
def dk_g (c : Prop) [Decidable c] (k : Option β) : Option β := if c then k else none
variable {n key : Nat} {f : Nat → Int32} {i x : Int32} {res : β} {S : dk_S}
theorem dk_r_out {k : Int32 → Option β} (h : dk_r n f i k = some res) : vp_in i n ∧ k (f i.toNatClampNeg) = some res := by
  unfold dk_r at h; split at h
  · cases h
  · rename_i q; exact ⟨q, h⟩
theorem dk_rl_out {f : Nat → Int64} {k : Int64 → Option β} (h : dk_rl n f i k = some res) : vp_in i n ∧ k (f i.toNatClampNeg) = some res := by
  unfold dk_rl at h; split at h
  · cases h
  · rename_i q; exact ⟨q, h⟩
theorem dk_w_out {k : dk_S → Option β} (h : dk_w S key n i x k = some res) : vp_in i n ∧ k (dk_U S key i.toNatClampNeg x) = some res := by
  unfold dk_w at h; split at h
  · cases h
  · rename_i q; exact ⟨q, h⟩
theorem dk_b_out {k : Option β} (h : dk_b x k = some res) : (x = 0 ∨ x = 1) ∧ k = some res := by
  unfold dk_b at h; split at h
  · rename_i q; exact ⟨q, h⟩
  · cases h
theorem dk_c_out {α : Type} {o : Option (α × dk_S)} {k : α → dk_S → Option β} (h : dk_c o k = some res) : ∃ q, o = some q ∧ k q.1 q.2 = some res := by
  cases o with
  | none => cases h
  | some q => exact ⟨q, rfl, h⟩
theorem dk_cv_out {o : Option dk_S} {k : dk_S → Option β} (h : dk_cv o k = some res) : ∃ q, o = some q ∧ k q = some res := by
  cases o with
  | none => cases h
  | some q => exact ⟨q, rfl, h⟩
theorem dk_g_out {c : Prop} [Decidable c] {k : Option β} (h : dk_g c k = some res) : c ∧ k = some res := by
  unfold dk_g at h; split at h
  · rename_i q; exact ⟨q, h⟩
  · cases h
theorem dk_if {c : Prop} [Decidable c] {a b : Option β} {G : Prop} (h : (if c then a else b) = some res) (ht : c → a = some res → G) (hf : ¬ c → b = some res → G) : G := by
  by_cases q : c
  · rw [if_pos q] at h; exact ht q h
  · rw [if_neg q] at h; exact hf q h
end DKF
/-- the tables' words that stay true as the machine warms -/
def dk_tb : List Cond := lw_tbl.filter goodWord
theorem dk_in {w : Cond} (h : w ∈ lw_tbl) (hg : goodWord w = true) : w ∈ dk_tb := List.mem_filter.mpr ⟨h, hg⟩
abbrev dk_G : Type := va_G × (Nat → ClassId) × (Nat → Nat) × (Nat → Nat)
abbrev dk_ty (g : dk_G) : List (ClassId × FieldType) := [(g.2.1 0, .int), (g.2.1 1, .boolean), (g.2.1 2, .byte), (g.2.1 3, .long), (g.2.1 4, .object R_Text), (g.2.1 5, .object R_Sheet)]
def dk_wtx : String := "kind since weight ground tame who worth follow or and not "
def dk_wbt : List Int32 := [107, 105, 110, 100, 32, 115, 105, 110, 99, 101, 32, 119, 101, 105, 103, 104, 116, 32, 103, 114, 111, 117, 110, 100, 32, 116, 97, 109, 101, 32, 119, 104, 111, 32, 119, 111, 114, 116, 104, 32, 102, 111, 108, 108, 111, 119, 32, 111, 114, 32, 97, 110, 100, 32, 110, 111, 116, 32]
/-- the one text constant: its cells are not the method's -/
def dk_Z (g : dk_G) (A : Nat → Prop) (U : State) (H : Heap) : Prop := vk_S 1 [58] [dk_wbt] g.2.2.1 g.2.2.2 A U H ∧ vk_R R_Reader 119 dk_wtx (g.2.2.1 0) U
theorem dk_Z.kept {g : dk_G} {A : Nat → Prop} {U : State} {H H1 : Heap} (h : dk_Z g A U H) (hq : ∀ a : Nat, a < H.size → ¬ A a → H1[a]? = H[a]?) : dk_Z g A U H1 := ⟨h.1.kept hq, h.2⟩
theorem dk_Z.narrow {g : dk_G} {A B : Nat → Prop} {U : State} {H : Heap} (h : dk_Z g A U H) (hAB : ∀ q, B q → A q) : dk_Z g B U H := ⟨h.1.narrow hAB, h.2⟩
theorem dk_Z.warm {g : dk_G} {A : Nat → Prop} {s U : State} {H : Heap} (hW : s.WarmedH U.vm) (h : dk_Z g A s H) : dk_Z g A U H := ⟨h.1.moved hW.alike, h.2.warm hW⟩
theorem dk_Z.same {g : dk_G} {A : Nat → Prop} {s U : State} {H : Heap} (hv : U.vm = s.vm) (h : dk_Z g A s H) : dk_Z g A U H := ⟨h.1.moved (by rw [hv]; exact Vm.Alike.refl _), h.2.same hv⟩
def dk_X (p : Program) (s : State) (m : MethodId) (args : Array Value) (meth : Method) (c : Code) (cc : ByteArray) (nL : Nat) (own : String) (ret : Option FieldType) (g : dk_G) (A : Nat → Prop) : Prop :=
  p.tables.exec = Jvm.exec ∧ c.code = cc ∧ c.maxLocals = nL ∧ s.vm.findClass own = some m.cls ∧ (∀ w ∈ dk_tb, w.before args s = true) ∧ va_K g.1 dk_cls (dk_ty g) s ∧ (∀ q, s.heap.size ≤ q → A q) ∧ meth.sig.returnType = ret ∧ meth.locks = false ∧ dk_Z g A s s.heap
def dk_J (p : Program) (l : Launch) (e : Env) (R : Room) (s : State) (m : MethodId) (args : Array Value) (below : List Frame) (meth : Method) (c : Code) (g : dk_G) (A : Nat → Prop) (Q : State → Prop) (nL cells slots pc : Nat) (lv : List (Nat × Value)) (st : List Value) (ws : va_W) : Prop :=
  ∀ (H : Heap) (locs : List Loc) (ls : Array Slot), va_P g.1 dk_cls ws H → va_D A ws → va_S A s.heap H locs → lv_has ls nL lv → W p l e R s m args below meth c H locs cells slots Q (F0 m pc ls st)
/-- what a class's tables say -/
def dk_Cl (C : String) (T : u_T) (N ci : Nat) (ty : Nat → FieldType) : Prop := (∀ w ∈ u_ws C T N, w ∈ dk_tb) ∧ dk_cls[ci]? = some (C, T, N) ∧ (∀ k, k < N → parseFieldDescriptor (T k).2.2.1 = some (ty k)) ∧ (∀ a, a < N → ∀ b, b < N → a ≠ b → (T a).2.1 ≠ (T b).2.1)
section DKJ
variable {p : Program} {l : Launch} {e : Env} {R : Room} {s : State} {m : MethodId} {args : Array Value} {below : List Frame} {meth : Method} {c : Code} {g : dk_G} {A : Nat → Prop} {Q : State → Prop} {nL cells slots pc : Nat} {lv : List (Nat × Value)} {st : List Value} {ws : va_W} {cc : ByteArray} {own : String} {ret : Option FieldType}
theorem dk_iconst (X : dk_X p s m args meth c cc nL own ret g A) {n : Int} {v : Int32} (hv : Int32.ofInt n = v) (hdg : decode cc pc = .ok (.iconst n, 1))
    (kk : dk_J p l e R s m args below meth c g A Q nL cells slots (pc + 1) lv (.int v :: st) ws) : dk_J p l e R s m args below meth c g A Q nL cells slots pc lv (st) ws := fun H locs ls hP hD hS hl =>
  lv_iconst X.1 X.2.1 hdg hv (kk H locs ls hP hD hS hl)
theorem dk_bipush (X : dk_X p s m args meth c cc nL own ret g A) {n : Int} {v : Int32} (hv : (Int8.ofInt n).toInt32 = v) (hdg : decode cc pc = .ok (.bipush n, 2))
    (kk : dk_J p l e R s m args below meth c g A Q nL cells slots (pc + 2) lv (.int v :: st) ws) : dk_J p l e R s m args below meth c g A Q nL cells slots pc lv (st) ws := fun H locs ls hP hD hS hl =>
  lv_bipush X.1 X.2.1 hdg hv (kk H locs ls hP hD hS hl)
theorem dk_sipush (X : dk_X p s m args meth c cc nL own ret g A) {n : Int} {v : Int32} (hv : (Int16.ofInt n).toInt32 = v) (hdg : decode cc pc = .ok (.sipush n, 3))
    (kk : dk_J p l e R s m args below meth c g A Q nL cells slots (pc + 3) lv (.int v :: st) ws) : dk_J p l e R s m args below meth c g A Q nL cells slots pc lv (st) ws := fun H locs ls hP hD hS hl =>
  lv_sipush X.1 X.2.1 hdg hv (kk H locs ls hP hD hS hl)
theorem dk_lconst (X : dk_X p s m args meth c cc nL own ret g A) {n : Fin 2} {v : Int64} (hv : Int64.ofNat (n : Nat) = v) (hdg : decode cc pc = .ok (.lconst n, 1))
    (kk : dk_J p l e R s m args below meth c g A Q nL cells slots (pc + 1) lv (.long v :: st) ws) : dk_J p l e R s m args below meth c g A Q nL cells slots pc lv (st) ws := fun H locs ls hP hD hS hl =>
  lv_lconst X.1 X.2.1 hdg hv (kk H locs ls hP hD hS hl)
theorem dk_iload_n (X : dk_X p s m args meth c cc nL own ret g A) {k : Fin 4} {i : Nat} {x : Int32} (j : Nat) (hi : (k : Nat) = i) (hj : lv[j]? = some (i, .int x)) (hdg : decode cc pc = .ok (.iload_n k, 1))
    (kk : dk_J p l e R s m args below meth c g A Q nL cells slots (pc + 1) lv (.int x :: st) ws) : dk_J p l e R s m args below meth c g A Q nL cells slots pc lv (st) ws := fun H locs ls hP hD hS hl =>
  lv_iload_n X.1 X.2.1 hdg hi (lv_at hl j hj) (kk H locs ls hP hD hS hl)
theorem dk_iload (X : dk_X p s m args meth c cc nL own ret g A) {i : Nat} {x : Int32} (j : Nat) (hj : lv[j]? = some (i, .int x)) (hdg : decode cc pc = .ok (.iload i, 2))
    (kk : dk_J p l e R s m args below meth c g A Q nL cells slots (pc + 2) lv (.int x :: st) ws) : dk_J p l e R s m args below meth c g A Q nL cells slots pc lv (st) ws := fun H locs ls hP hD hS hl =>
  lv_iload X.1 X.2.1 hdg (lv_at hl j hj) (kk H locs ls hP hD hS hl)
theorem dk_istore_n (X : dk_X p s m args meth c cc nL own ret g A) {k : Fin 4} {i : Nat} {x : Int32} {lv' : List (Nat × Value)} (hi : (k : Nat) = i) (hn : i < nL) (hv : (i, Value.int x) :: lv.filter (fun q => !(q.1 == i) && !(q.1 + 1 == i && q.2.category == 2)) = lv') (hdg : decode cc pc = .ok (.istore_n k, 1))
    (kk : dk_J p l e R s m args below meth c g A Q nL cells slots (pc + 1) lv' st ws) : dk_J p l e R s m args below meth c g A Q nL cells slots pc lv (.int x :: st) ws := fun H locs ls hP hD hS hl =>
  lv_istore_n X.1 X.2.1 hdg hi hl hn hv (fun ls' hl' => kk H locs ls' hP hD hS hl')
theorem dk_istore (X : dk_X p s m args meth c cc nL own ret g A) {i : Nat} {x : Int32} {lv' : List (Nat × Value)} (hn : i < nL) (hv : (i, Value.int x) :: lv.filter (fun q => !(q.1 == i) && !(q.1 + 1 == i && q.2.category == 2)) = lv') (hdg : decode cc pc = .ok (.istore i, 2))
    (kk : dk_J p l e R s m args below meth c g A Q nL cells slots (pc + 2) lv' st ws) : dk_J p l e R s m args below meth c g A Q nL cells slots pc lv (.int x :: st) ws := fun H locs ls hP hD hS hl =>
  lv_istore X.1 X.2.1 hdg hl hn hv (fun ls' hl' => kk H locs ls' hP hD hS hl')
theorem dk_lload_n (X : dk_X p s m args meth c cc nL own ret g A) {k : Fin 4} {i : Nat} {x : Int64} (j : Nat) (hi : (k : Nat) = i) (hj : lv[j]? = some (i, .long x)) (hdg : decode cc pc = .ok (.lload_n k, 1))
    (kk : dk_J p l e R s m args below meth c g A Q nL cells slots (pc + 1) lv (.long x :: st) ws) : dk_J p l e R s m args below meth c g A Q nL cells slots pc lv (st) ws := fun H locs ls hP hD hS hl =>
  lv_lload_n X.1 X.2.1 hdg hi (lv_at hl j hj) (kk H locs ls hP hD hS hl)
theorem dk_lload (X : dk_X p s m args meth c cc nL own ret g A) {i : Nat} {x : Int64} (j : Nat) (hj : lv[j]? = some (i, .long x)) (hdg : decode cc pc = .ok (.lload i, 2))
    (kk : dk_J p l e R s m args below meth c g A Q nL cells slots (pc + 2) lv (.long x :: st) ws) : dk_J p l e R s m args below meth c g A Q nL cells slots pc lv (st) ws := fun H locs ls hP hD hS hl =>
  lv_lload X.1 X.2.1 hdg (lv_at hl j hj) (kk H locs ls hP hD hS hl)
theorem dk_lstore_n (X : dk_X p s m args meth c cc nL own ret g A) {k : Fin 4} {i : Nat} {x : Int64} {lv' : List (Nat × Value)} (hi : (k : Nat) = i) (hn : i + 1 < nL) (hv : (i, Value.long x) :: lv.filter (fun q => !(q.1 == i) && (!(q.1 == i + 1) && !(q.1 + 1 == i && q.2.category == 2))) = lv') (hdg : decode cc pc = .ok (.lstore_n k, 1))
    (kk : dk_J p l e R s m args below meth c g A Q nL cells slots (pc + 1) lv' st ws) : dk_J p l e R s m args below meth c g A Q nL cells slots pc lv (.long x :: st) ws := fun H locs ls hP hD hS hl =>
  lv_lstore_n X.1 X.2.1 hdg hi hl hn hv (fun ls' hl' => kk H locs ls' hP hD hS hl')
theorem dk_lstore (X : dk_X p s m args meth c cc nL own ret g A) {i : Nat} {x : Int64} {lv' : List (Nat × Value)} (hn : i + 1 < nL) (hv : (i, Value.long x) :: lv.filter (fun q => !(q.1 == i) && (!(q.1 == i + 1) && !(q.1 + 1 == i && q.2.category == 2))) = lv') (hdg : decode cc pc = .ok (.lstore i, 2))
    (kk : dk_J p l e R s m args below meth c g A Q nL cells slots (pc + 2) lv' st ws) : dk_J p l e R s m args below meth c g A Q nL cells slots pc lv (.long x :: st) ws := fun H locs ls hP hD hS hl =>
  lv_lstore X.1 X.2.1 hdg hl hn hv (fun ls' hl' => kk H locs ls' hP hD hS hl')
theorem dk_aload_n (X : dk_X p s m args meth c cc nL own ret g A) {k : Fin 4} {i : Nat} {x : Nat} (j : Nat) (hi : (k : Nat) = i) (hj : lv[j]? = some (i, .ref x)) (hdg : decode cc pc = .ok (.aload_n k, 1))
    (kk : dk_J p l e R s m args below meth c g A Q nL cells slots (pc + 1) lv (.ref x :: st) ws) : dk_J p l e R s m args below meth c g A Q nL cells slots pc lv (st) ws := fun H locs ls hP hD hS hl =>
  lv_aload_n X.1 X.2.1 hdg hi (lv_at hl j hj) (kk H locs ls hP hD hS hl)
theorem dk_aload (X : dk_X p s m args meth c cc nL own ret g A) {i : Nat} {x : Nat} (j : Nat) (hj : lv[j]? = some (i, .ref x)) (hdg : decode cc pc = .ok (.aload i, 2))
    (kk : dk_J p l e R s m args below meth c g A Q nL cells slots (pc + 2) lv (.ref x :: st) ws) : dk_J p l e R s m args below meth c g A Q nL cells slots pc lv (st) ws := fun H locs ls hP hD hS hl =>
  lv_aload X.1 X.2.1 hdg (lv_at hl j hj) (kk H locs ls hP hD hS hl)
theorem dk_astore_n (X : dk_X p s m args meth c cc nL own ret g A) {k : Fin 4} {i : Nat} {x : Nat} {lv' : List (Nat × Value)} (hi : (k : Nat) = i) (hn : i < nL) (hv : (i, Value.ref x) :: lv.filter (fun q => !(q.1 == i) && !(q.1 + 1 == i && q.2.category == 2)) = lv') (hdg : decode cc pc = .ok (.astore_n k, 1))
    (kk : dk_J p l e R s m args below meth c g A Q nL cells slots (pc + 1) lv' st ws) : dk_J p l e R s m args below meth c g A Q nL cells slots pc lv (.ref x :: st) ws := fun H locs ls hP hD hS hl =>
  lv_astore_n X.1 X.2.1 hdg hi hl hn hv (fun ls' hl' => kk H locs ls' hP hD hS hl')
theorem dk_astore (X : dk_X p s m args meth c cc nL own ret g A) {i : Nat} {x : Nat} {lv' : List (Nat × Value)} (hn : i < nL) (hv : (i, Value.ref x) :: lv.filter (fun q => !(q.1 == i) && !(q.1 + 1 == i && q.2.category == 2)) = lv') (hdg : decode cc pc = .ok (.astore i, 2))
    (kk : dk_J p l e R s m args below meth c g A Q nL cells slots (pc + 2) lv' st ws) : dk_J p l e R s m args below meth c g A Q nL cells slots pc lv (.ref x :: st) ws := fun H locs ls hP hD hS hl =>
  lv_astore X.1 X.2.1 hdg hl hn hv (fun ls' hl' => kk H locs ls' hP hD hS hl')
theorem dk_iinc (X : dk_X p s m args meth c cc nL own ret g A) {i : Nat} {n : Int} {x v : Int32} {lv' : List (Nat × Value)} (j : Nat) (hj : lv[j]? = some (i, .int x)) (hx : x + Int32.ofInt n = v) (hn : i < nL) (hv : (i, Value.int v) :: lv.filter (fun q => !(q.1 == i) && !(q.1 + 1 == i && q.2.category == 2)) = lv') (hdg : decode cc pc = .ok (.iinc i n, 3))
    (kk : dk_J p l e R s m args below meth c g A Q nL cells slots (pc + 3) lv' st ws) : dk_J p l e R s m args below meth c g A Q nL cells slots pc lv st ws := fun H locs ls hP hD hS hl =>
  lv_iinc X.1 X.2.1 hdg hl hj hx hn hv (fun ls' hl' => kk H locs ls' hP hD hS hl')
theorem dk_iadd (X : dk_X p s m args meth c cc nL own ret g A) {x y : Int32} (hdg : decode cc pc = .ok (.iadd, 1))
    (kk : dk_J p l e R s m args below meth c g A Q nL cells slots (pc + 1) lv (.int (x + y) :: st) ws) : dk_J p l e R s m args below meth c g A Q nL cells slots pc lv (.int y :: .int x :: st) ws := fun H locs ls hP hD hS hl =>
  lv_iadd X.1 X.2.1 hdg (kk H locs ls hP hD hS hl)
theorem dk_isub (X : dk_X p s m args meth c cc nL own ret g A) {x y : Int32} (hdg : decode cc pc = .ok (.isub, 1))
    (kk : dk_J p l e R s m args below meth c g A Q nL cells slots (pc + 1) lv (.int (x - y) :: st) ws) : dk_J p l e R s m args below meth c g A Q nL cells slots pc lv (.int y :: .int x :: st) ws := fun H locs ls hP hD hS hl =>
  lv_isub X.1 X.2.1 hdg (kk H locs ls hP hD hS hl)
theorem dk_imul (X : dk_X p s m args meth c cc nL own ret g A) {x y : Int32} (hdg : decode cc pc = .ok (.imul, 1))
    (kk : dk_J p l e R s m args below meth c g A Q nL cells slots (pc + 1) lv (.int (x * y) :: st) ws) : dk_J p l e R s m args below meth c g A Q nL cells slots pc lv (.int y :: .int x :: st) ws := fun H locs ls hP hD hS hl =>
  lv_imul X.1 X.2.1 hdg (kk H locs ls hP hD hS hl)
theorem dk_iand (X : dk_X p s m args meth c cc nL own ret g A) {x y : Int32} (hdg : decode cc pc = .ok (.iand, 1))
    (kk : dk_J p l e R s m args below meth c g A Q nL cells slots (pc + 1) lv (.int (x &&& y) :: st) ws) : dk_J p l e R s m args below meth c g A Q nL cells slots pc lv (.int y :: .int x :: st) ws := fun H locs ls hP hD hS hl =>
  lv_iand X.1 X.2.1 hdg (kk H locs ls hP hD hS hl)
theorem dk_ior (X : dk_X p s m args meth c cc nL own ret g A) {x y : Int32} (hdg : decode cc pc = .ok (.ior, 1))
    (kk : dk_J p l e R s m args below meth c g A Q nL cells slots (pc + 1) lv (.int (x ||| y) :: st) ws) : dk_J p l e R s m args below meth c g A Q nL cells slots pc lv (.int y :: .int x :: st) ws := fun H locs ls hP hD hS hl =>
  lv_ior X.1 X.2.1 hdg (kk H locs ls hP hD hS hl)
theorem dk_ixor (X : dk_X p s m args meth c cc nL own ret g A) {x y : Int32} (hdg : decode cc pc = .ok (.ixor, 1))
    (kk : dk_J p l e R s m args below meth c g A Q nL cells slots (pc + 1) lv (.int (x ^^^ y) :: st) ws) : dk_J p l e R s m args below meth c g A Q nL cells slots pc lv (.int y :: .int x :: st) ws := fun H locs ls hP hD hS hl =>
  lv_ixor X.1 X.2.1 hdg (kk H locs ls hP hD hS hl)
theorem dk_ishl (X : dk_X p s m args meth c cc nL own ret g A) {x y : Int32} (hdg : decode cc pc = .ok (.ishl, 1))
    (kk : dk_J p l e R s m args below meth c g A Q nL cells slots (pc + 1) lv (.int (x <<< (y &&& 31)) :: st) ws) : dk_J p l e R s m args below meth c g A Q nL cells slots pc lv (.int y :: .int x :: st) ws := fun H locs ls hP hD hS hl =>
  lv_ishl X.1 X.2.1 hdg (kk H locs ls hP hD hS hl)
theorem dk_ishr (X : dk_X p s m args meth c cc nL own ret g A) {x y : Int32} (hdg : decode cc pc = .ok (.ishr, 1))
    (kk : dk_J p l e R s m args below meth c g A Q nL cells slots (pc + 1) lv (.int (x >>> (y &&& 31)) :: st) ws) : dk_J p l e R s m args below meth c g A Q nL cells slots pc lv (.int y :: .int x :: st) ws := fun H locs ls hP hD hS hl =>
  lv_ishr X.1 X.2.1 hdg (kk H locs ls hP hD hS hl)
theorem dk_idiv (X : dk_X p s m args meth c cc nL own ret g A) {x y : Int32} (hne : ¬ y = 0) (hdg : decode cc pc = .ok (.idiv, 1))
    (kk : dk_J p l e R s m args below meth c g A Q nL cells slots (pc + 1) lv (.int (x / y) :: st) ws) : dk_J p l e R s m args below meth c g A Q nL cells slots pc lv (.int y :: .int x :: st) ws := fun H locs ls hP hD hS hl =>
  lv_idiv X.1 X.2.1 hdg hne (kk H locs ls hP hD hS hl)
theorem dk_irem (X : dk_X p s m args meth c cc nL own ret g A) {x y : Int32} (hne : ¬ y = 0) (hdg : decode cc pc = .ok (.irem, 1))
    (kk : dk_J p l e R s m args below meth c g A Q nL cells slots (pc + 1) lv (.int (x - x / y * y) :: st) ws) : dk_J p l e R s m args below meth c g A Q nL cells slots pc lv (.int y :: .int x :: st) ws := fun H locs ls hP hD hS hl =>
  lv_irem X.1 X.2.1 hdg hne (kk H locs ls hP hD hS hl)
theorem dk_ineg (X : dk_X p s m args meth c cc nL own ret g A) {x : Int32} (hdg : decode cc pc = .ok (.ineg, 1))
    (kk : dk_J p l e R s m args below meth c g A Q nL cells slots (pc + 1) lv (.int (-x) :: st) ws) : dk_J p l e R s m args below meth c g A Q nL cells slots pc lv (.int x :: st) ws := fun H locs ls hP hD hS hl =>
  lv_ineg X.1 X.2.1 hdg (kk H locs ls hP hD hS hl)
theorem dk_ladd (X : dk_X p s m args meth c cc nL own ret g A) {x y : Int64} (hdg : decode cc pc = .ok (.ladd, 1))
    (kk : dk_J p l e R s m args below meth c g A Q nL cells slots (pc + 1) lv (.long (x + y) :: st) ws) : dk_J p l e R s m args below meth c g A Q nL cells slots pc lv (.long y :: .long x :: st) ws := fun H locs ls hP hD hS hl =>
  lv_ladd X.1 X.2.1 hdg (kk H locs ls hP hD hS hl)
theorem dk_lor (X : dk_X p s m args meth c cc nL own ret g A) {x y : Int64} (hdg : decode cc pc = .ok (.lor, 1))
    (kk : dk_J p l e R s m args below meth c g A Q nL cells slots (pc + 1) lv (.long (x ||| y) :: st) ws) : dk_J p l e R s m args below meth c g A Q nL cells slots pc lv (.long y :: .long x :: st) ws := fun H locs ls hP hD hS hl =>
  lv_lor X.1 X.2.1 hdg (kk H locs ls hP hD hS hl)
theorem dk_land (X : dk_X p s m args meth c cc nL own ret g A) {x y : Int64} (hdg : decode cc pc = .ok (.land, 1))
    (kk : dk_J p l e R s m args below meth c g A Q nL cells slots (pc + 1) lv (.long (x &&& y) :: st) ws) : dk_J p l e R s m args below meth c g A Q nL cells slots pc lv (.long y :: .long x :: st) ws := fun H locs ls hP hD hS hl =>
  lv_land X.1 X.2.1 hdg (kk H locs ls hP hD hS hl)
theorem dk_ldiv (X : dk_X p s m args meth c cc nL own ret g A) {x y : Int64} (hne : ¬ y = 0) (hdg : decode cc pc = .ok (.ldiv, 1))
    (kk : dk_J p l e R s m args below meth c g A Q nL cells slots (pc + 1) lv (.long (x / y) :: st) ws) : dk_J p l e R s m args below meth c g A Q nL cells slots pc lv (.long y :: .long x :: st) ws := fun H locs ls hP hD hS hl =>
  lv_ldiv X.1 X.2.1 hdg hne (kk H locs ls hP hD hS hl)
theorem dk_lrem (X : dk_X p s m args meth c cc nL own ret g A) {x y : Int64} (hne : ¬ y = 0) (hdg : decode cc pc = .ok (.lrem, 1))
    (kk : dk_J p l e R s m args below meth c g A Q nL cells slots (pc + 1) lv (.long (x - x / y * y) :: st) ws) : dk_J p l e R s m args below meth c g A Q nL cells slots pc lv (.long y :: .long x :: st) ws := fun H locs ls hP hD hS hl =>
  lv_lrem X.1 X.2.1 hdg hne (kk H locs ls hP hD hS hl)
theorem dk_lcmp (X : dk_X p s m args meth c cc nL own ret g A) {x y : Int64} (hdg : decode cc pc = .ok (.lcmp, 1))
    (kk : dk_J p l e R s m args below meth c g A Q nL cells slots (pc + 1) lv (.int (lg_cmp x y) :: st) ws) : dk_J p l e R s m args below meth c g A Q nL cells slots pc lv (.long y :: .long x :: st) ws := fun H locs ls hP hD hS hl =>
  W.lcmp X.1 X.2.1 hdg (kk H locs ls hP hD hS hl)
theorem dk_i2l (X : dk_X p s m args meth c cc nL own ret g A) {x : Int32} (hdg : decode cc pc = .ok (.i2l, 1))
    (kk : dk_J p l e R s m args below meth c g A Q nL cells slots (pc + 1) lv (.long x.toInt64 :: st) ws) : dk_J p l e R s m args below meth c g A Q nL cells slots pc lv (.int x :: st) ws := fun H locs ls hP hD hS hl =>
  lv_i2l X.1 X.2.1 hdg rfl (kk H locs ls hP hD hS hl)
theorem dk_l2i (X : dk_X p s m args meth c cc nL own ret g A) {x : Int64} (hdg : decode cc pc = .ok (.l2i, 1))
    (kk : dk_J p l e R s m args below meth c g A Q nL cells slots (pc + 1) lv (.int x.toInt32 :: st) ws) : dk_J p l e R s m args below meth c g A Q nL cells slots pc lv (.long x :: st) ws := fun H locs ls hP hD hS hl =>
  lv_l2i X.1 X.2.1 hdg rfl (kk H locs ls hP hD hS hl)
theorem dk_i2b (X : dk_X p s m args meth c cc nL own ret g A) {x : Int32} (hdg : decode cc pc = .ok (.i2b, 1))
    (kk : dk_J p l e R s m args below meth c g A Q nL cells slots (pc + 1) lv (.int x.toInt8.toInt32 :: st) ws) : dk_J p l e R s m args below meth c g A Q nL cells slots pc lv (.int x :: st) ws := fun H locs ls hP hD hS hl =>
  lv_i2b X.1 X.2.1 hdg rfl (kk H locs ls hP hD hS hl)
theorem dk_i2s (X : dk_X p s m args meth c cc nL own ret g A) {x : Int32} (hdg : decode cc pc = .ok (.i2s, 1))
    (kk : dk_J p l e R s m args below meth c g A Q nL cells slots (pc + 1) lv (.int x.toInt16.toInt32 :: st) ws) : dk_J p l e R s m args below meth c g A Q nL cells slots pc lv (.int x :: st) ws := fun H locs ls hP hD hS hl =>
  lv_i2s X.1 X.2.1 hdg rfl (kk H locs ls hP hD hS hl)
theorem dk_lshl (X : dk_X p s m args meth c cc nL own ret g A) {x : Int64} {y : Int32} (hdg : decode cc pc = .ok (.lshl, 1))
    (kk : dk_J p l e R s m args below meth c g A Q nL cells slots (pc + 1) lv (.long (x <<< (y.toInt64 &&& 63)) :: st) ws) : dk_J p l e R s m args below meth c g A Q nL cells slots pc lv (.int y :: .long x :: st) ws := fun H locs ls hP hD hS hl =>
  lv_lshl X.1 X.2.1 hdg rfl (kk H locs ls hP hD hS hl)
theorem dk_lshr (X : dk_X p s m args meth c cc nL own ret g A) {x : Int64} {y : Int32} (hdg : decode cc pc = .ok (.lshr, 1))
    (kk : dk_J p l e R s m args below meth c g A Q nL cells slots (pc + 1) lv (.long (x >>> (y.toInt64 &&& 63)) :: st) ws) : dk_J p l e R s m args below meth c g A Q nL cells slots pc lv (.int y :: .long x :: st) ws := fun H locs ls hP hD hS hl =>
  lv_lshr X.1 X.2.1 hdg rfl (kk H locs ls hP hD hS hl)
theorem dk_dup (X : dk_X p s m args meth c cc nL own ret g A) {va : Value} (hva : va.category = 1) (hdg : decode cc pc = .ok (.dup, 1))
    (kk : dk_J p l e R s m args below meth c g A Q nL cells slots (pc + 1) lv (va :: va :: st) ws) : dk_J p l e R s m args below meth c g A Q nL cells slots pc lv (va :: st) ws := fun H locs ls hP hD hS hl =>
  lv_dup X.1 X.2.1 hdg hva (kk H locs ls hP hD hS hl)
theorem dk_pop (X : dk_X p s m args meth c cc nL own ret g A) {va : Value} (hva : va.category = 1) (hdg : decode cc pc = .ok (.pop, 1))
    (kk : dk_J p l e R s m args below meth c g A Q nL cells slots (pc + 1) lv (st) ws) : dk_J p l e R s m args below meth c g A Q nL cells slots pc lv (va :: st) ws := fun H locs ls hP hD hS hl =>
  lv_pop X.1 X.2.1 hdg hva (kk H locs ls hP hD hS hl)
theorem dk_dup_x1 (X : dk_X p s m args meth c cc nL own ret g A) {va vb : Value} (hva : va.category = 1) (hvb : vb.category = 1) (hdg : decode cc pc = .ok (.dup_x1, 1))
    (kk : dk_J p l e R s m args below meth c g A Q nL cells slots (pc + 1) lv (va :: vb :: va :: st) ws) : dk_J p l e R s m args below meth c g A Q nL cells slots pc lv (va :: vb :: st) ws := fun H locs ls hP hD hS hl =>
  lv_dup_x1 X.1 X.2.1 hdg hva hvb (kk H locs ls hP hD hS hl)
theorem dk_goto (X : dk_X p s m args meth c cc nL own ret g A) {off : Int} {tgt : Nat} (ht : (pc : Int) + off = (tgt : Int)) (hdg : decode cc pc = .ok (.goto off, 3))
    (kk : dk_J p l e R s m args below meth c g A Q nL cells slots tgt lv st ws) : dk_J p l e R s m args below meth c g A Q nL cells slots pc lv st ws := fun H locs ls hP hD hS hl =>
  lv_goto X.1 X.2.1 hdg ht (kk H locs ls hP hD hS hl)
theorem dk_if_eq {β : Type} {a b : Option β} {res : β} (X : dk_X p s m args meth c cc nL own ret g A) {x : Int32} {off : Int} {tgt : Nat} (ht : (pc : Int) + off = (tgt : Int)) (hdg : decode cc pc = .ok (.ifCond .eq off, 3)) (hF : (if x = 0 then a else b) = some res)
    (kt : a = some res → dk_J p l e R s m args below meth c g A Q nL cells slots tgt lv st ws) (kf : b = some res → dk_J p l e R s m args below meth c g A Q nL cells slots (pc + 3) lv st ws) : dk_J p l e R s m args below meth c g A Q nL cells slots pc lv (.int x :: st) ws :=
  dk_if hF (fun hc hF H locs ls hP hD hS hl => lv_if_eq X.1 X.2.1 hdg ht (fun _ => kt hF H locs ls hP hD hS hl) (fun h => absurd hc (by exact fun z => h z))) (fun hc hF H locs ls hP hD hS hl => lv_if_eq X.1 X.2.1 hdg ht (fun h => absurd h hc) (fun _ => kf hF H locs ls hP hD hS hl))
theorem dk_icmp_eq {β : Type} {a b : Option β} {res : β} (X : dk_X p s m args meth c cc nL own ret g A) {x y : Int32} {off : Int} {tgt : Nat} (ht : (pc : Int) + off = (tgt : Int)) (hdg : decode cc pc = .ok (.if_icmp .eq off, 3)) (hF : (if x = y then a else b) = some res)
    (kt : a = some res → dk_J p l e R s m args below meth c g A Q nL cells slots tgt lv st ws) (kf : b = some res → dk_J p l e R s m args below meth c g A Q nL cells slots (pc + 3) lv st ws) : dk_J p l e R s m args below meth c g A Q nL cells slots pc lv (.int y :: .int x :: st) ws :=
  dk_if hF (fun hc hF H locs ls hP hD hS hl => lv_icmp_eq X.1 X.2.1 hdg ht (fun _ => kt hF H locs ls hP hD hS hl) (fun h => absurd hc (by exact fun z => h z))) (fun hc hF H locs ls hP hD hS hl => lv_icmp_eq X.1 X.2.1 hdg ht (fun h => absurd h hc) (fun _ => kf hF H locs ls hP hD hS hl))
theorem dk_if_ne {β : Type} {a b : Option β} {res : β} (X : dk_X p s m args meth c cc nL own ret g A) {x : Int32} {off : Int} {tgt : Nat} (ht : (pc : Int) + off = (tgt : Int)) (hdg : decode cc pc = .ok (.ifCond .ne off, 3)) (hF : (if ¬ x = 0 then a else b) = some res)
    (kt : a = some res → dk_J p l e R s m args below meth c g A Q nL cells slots tgt lv st ws) (kf : b = some res → dk_J p l e R s m args below meth c g A Q nL cells slots (pc + 3) lv st ws) : dk_J p l e R s m args below meth c g A Q nL cells slots pc lv (.int x :: st) ws :=
  dk_if hF (fun hc hF H locs ls hP hD hS hl => lv_if_ne X.1 X.2.1 hdg ht (fun _ => kt hF H locs ls hP hD hS hl) (fun h => absurd h hc)) (fun hc hF H locs ls hP hD hS hl => lv_if_ne X.1 X.2.1 hdg ht (fun h => absurd h hc) (fun _ => kf hF H locs ls hP hD hS hl))
theorem dk_icmp_ne {β : Type} {a b : Option β} {res : β} (X : dk_X p s m args meth c cc nL own ret g A) {x y : Int32} {off : Int} {tgt : Nat} (ht : (pc : Int) + off = (tgt : Int)) (hdg : decode cc pc = .ok (.if_icmp .ne off, 3)) (hF : (if ¬ x = y then a else b) = some res)
    (kt : a = some res → dk_J p l e R s m args below meth c g A Q nL cells slots tgt lv st ws) (kf : b = some res → dk_J p l e R s m args below meth c g A Q nL cells slots (pc + 3) lv st ws) : dk_J p l e R s m args below meth c g A Q nL cells slots pc lv (.int y :: .int x :: st) ws :=
  dk_if hF (fun hc hF H locs ls hP hD hS hl => lv_icmp_ne X.1 X.2.1 hdg ht (fun _ => kt hF H locs ls hP hD hS hl) (fun h => absurd h hc)) (fun hc hF H locs ls hP hD hS hl => lv_icmp_ne X.1 X.2.1 hdg ht (fun h => absurd h hc) (fun _ => kf hF H locs ls hP hD hS hl))
theorem dk_if_lt {β : Type} {a b : Option β} {res : β} (X : dk_X p s m args meth c cc nL own ret g A) {x : Int32} {off : Int} {tgt : Nat} (ht : (pc : Int) + off = (tgt : Int)) (hdg : decode cc pc = .ok (.ifCond .lt off, 3)) (hF : (if x < 0 then a else b) = some res)
    (kt : a = some res → dk_J p l e R s m args below meth c g A Q nL cells slots tgt lv st ws) (kf : b = some res → dk_J p l e R s m args below meth c g A Q nL cells slots (pc + 3) lv st ws) : dk_J p l e R s m args below meth c g A Q nL cells slots pc lv (.int x :: st) ws :=
  dk_if hF (fun hc hF H locs ls hP hD hS hl => lv_if_lt X.1 X.2.1 hdg ht (fun _ => kt hF H locs ls hP hD hS hl) (fun h => absurd hc (by exact fun z => h z))) (fun hc hF H locs ls hP hD hS hl => lv_if_lt X.1 X.2.1 hdg ht (fun h => absurd h hc) (fun _ => kf hF H locs ls hP hD hS hl))
theorem dk_icmp_lt {β : Type} {a b : Option β} {res : β} (X : dk_X p s m args meth c cc nL own ret g A) {x y : Int32} {off : Int} {tgt : Nat} (ht : (pc : Int) + off = (tgt : Int)) (hdg : decode cc pc = .ok (.if_icmp .lt off, 3)) (hF : (if x < y then a else b) = some res)
    (kt : a = some res → dk_J p l e R s m args below meth c g A Q nL cells slots tgt lv st ws) (kf : b = some res → dk_J p l e R s m args below meth c g A Q nL cells slots (pc + 3) lv st ws) : dk_J p l e R s m args below meth c g A Q nL cells slots pc lv (.int y :: .int x :: st) ws :=
  dk_if hF (fun hc hF H locs ls hP hD hS hl => lv_icmp_lt X.1 X.2.1 hdg ht (fun _ => kt hF H locs ls hP hD hS hl) (fun h => absurd hc (by exact fun z => h z))) (fun hc hF H locs ls hP hD hS hl => lv_icmp_lt X.1 X.2.1 hdg ht (fun h => absurd h hc) (fun _ => kf hF H locs ls hP hD hS hl))
theorem dk_if_ge {β : Type} {a b : Option β} {res : β} (X : dk_X p s m args meth c cc nL own ret g A) {x : Int32} {off : Int} {tgt : Nat} (ht : (pc : Int) + off = (tgt : Int)) (hdg : decode cc pc = .ok (.ifCond .ge off, 3)) (hF : (if 0 ≤ x then a else b) = some res)
    (kt : a = some res → dk_J p l e R s m args below meth c g A Q nL cells slots tgt lv st ws) (kf : b = some res → dk_J p l e R s m args below meth c g A Q nL cells slots (pc + 3) lv st ws) : dk_J p l e R s m args below meth c g A Q nL cells slots pc lv (.int x :: st) ws :=
  dk_if hF (fun hc hF H locs ls hP hD hS hl => lv_if_ge X.1 X.2.1 hdg ht (fun _ => kt hF H locs ls hP hD hS hl) (fun h => absurd hc (by exact fun z => h z))) (fun hc hF H locs ls hP hD hS hl => lv_if_ge X.1 X.2.1 hdg ht (fun h => absurd h hc) (fun _ => kf hF H locs ls hP hD hS hl))
theorem dk_icmp_ge {β : Type} {a b : Option β} {res : β} (X : dk_X p s m args meth c cc nL own ret g A) {x y : Int32} {off : Int} {tgt : Nat} (ht : (pc : Int) + off = (tgt : Int)) (hdg : decode cc pc = .ok (.if_icmp .ge off, 3)) (hF : (if y ≤ x then a else b) = some res)
    (kt : a = some res → dk_J p l e R s m args below meth c g A Q nL cells slots tgt lv st ws) (kf : b = some res → dk_J p l e R s m args below meth c g A Q nL cells slots (pc + 3) lv st ws) : dk_J p l e R s m args below meth c g A Q nL cells slots pc lv (.int y :: .int x :: st) ws :=
  dk_if hF (fun hc hF H locs ls hP hD hS hl => lv_icmp_ge X.1 X.2.1 hdg ht (fun _ => kt hF H locs ls hP hD hS hl) (fun h => absurd hc (by exact fun z => h z))) (fun hc hF H locs ls hP hD hS hl => lv_icmp_ge X.1 X.2.1 hdg ht (fun h => absurd h hc) (fun _ => kf hF H locs ls hP hD hS hl))
theorem dk_if_gt {β : Type} {a b : Option β} {res : β} (X : dk_X p s m args meth c cc nL own ret g A) {x : Int32} {off : Int} {tgt : Nat} (ht : (pc : Int) + off = (tgt : Int)) (hdg : decode cc pc = .ok (.ifCond .gt off, 3)) (hF : (if 0 < x then a else b) = some res)
    (kt : a = some res → dk_J p l e R s m args below meth c g A Q nL cells slots tgt lv st ws) (kf : b = some res → dk_J p l e R s m args below meth c g A Q nL cells slots (pc + 3) lv st ws) : dk_J p l e R s m args below meth c g A Q nL cells slots pc lv (.int x :: st) ws :=
  dk_if hF (fun hc hF H locs ls hP hD hS hl => lv_if_gt X.1 X.2.1 hdg ht (fun _ => kt hF H locs ls hP hD hS hl) (fun h => absurd hc (by exact fun z => h z))) (fun hc hF H locs ls hP hD hS hl => lv_if_gt X.1 X.2.1 hdg ht (fun h => absurd h hc) (fun _ => kf hF H locs ls hP hD hS hl))
theorem dk_icmp_gt {β : Type} {a b : Option β} {res : β} (X : dk_X p s m args meth c cc nL own ret g A) {x y : Int32} {off : Int} {tgt : Nat} (ht : (pc : Int) + off = (tgt : Int)) (hdg : decode cc pc = .ok (.if_icmp .gt off, 3)) (hF : (if y < x then a else b) = some res)
    (kt : a = some res → dk_J p l e R s m args below meth c g A Q nL cells slots tgt lv st ws) (kf : b = some res → dk_J p l e R s m args below meth c g A Q nL cells slots (pc + 3) lv st ws) : dk_J p l e R s m args below meth c g A Q nL cells slots pc lv (.int y :: .int x :: st) ws :=
  dk_if hF (fun hc hF H locs ls hP hD hS hl => lv_icmp_gt X.1 X.2.1 hdg ht (fun _ => kt hF H locs ls hP hD hS hl) (fun h => absurd hc (by exact fun z => h z))) (fun hc hF H locs ls hP hD hS hl => lv_icmp_gt X.1 X.2.1 hdg ht (fun h => absurd h hc) (fun _ => kf hF H locs ls hP hD hS hl))
theorem dk_if_le {β : Type} {a b : Option β} {res : β} (X : dk_X p s m args meth c cc nL own ret g A) {x : Int32} {off : Int} {tgt : Nat} (ht : (pc : Int) + off = (tgt : Int)) (hdg : decode cc pc = .ok (.ifCond .le off, 3)) (hF : (if x ≤ 0 then a else b) = some res)
    (kt : a = some res → dk_J p l e R s m args below meth c g A Q nL cells slots tgt lv st ws) (kf : b = some res → dk_J p l e R s m args below meth c g A Q nL cells slots (pc + 3) lv st ws) : dk_J p l e R s m args below meth c g A Q nL cells slots pc lv (.int x :: st) ws :=
  dk_if hF (fun hc hF H locs ls hP hD hS hl => lv_if_le X.1 X.2.1 hdg ht (fun _ => kt hF H locs ls hP hD hS hl) (fun h => absurd hc (by exact fun z => h z))) (fun hc hF H locs ls hP hD hS hl => lv_if_le X.1 X.2.1 hdg ht (fun h => absurd h hc) (fun _ => kf hF H locs ls hP hD hS hl))
theorem dk_icmp_le {β : Type} {a b : Option β} {res : β} (X : dk_X p s m args meth c cc nL own ret g A) {x y : Int32} {off : Int} {tgt : Nat} (ht : (pc : Int) + off = (tgt : Int)) (hdg : decode cc pc = .ok (.if_icmp .le off, 3)) (hF : (if x ≤ y then a else b) = some res)
    (kt : a = some res → dk_J p l e R s m args below meth c g A Q nL cells slots tgt lv st ws) (kf : b = some res → dk_J p l e R s m args below meth c g A Q nL cells slots (pc + 3) lv st ws) : dk_J p l e R s m args below meth c g A Q nL cells slots pc lv (.int y :: .int x :: st) ws :=
  dk_if hF (fun hc hF H locs ls hP hD hS hl => lv_icmp_le X.1 X.2.1 hdg ht (fun _ => kt hF H locs ls hP hD hS hl) (fun h => absurd hc (by exact fun z => h z))) (fun hc hF H locs ls hP hD hS hl => lv_icmp_le X.1 X.2.1 hdg ht (fun h => absurd h hc) (fun _ => kf hF H locs ls hP hD hS hl))
theorem dk_sub {lv' : List (Nat × Value)} (ks : List Nat) (hk : lv_pick lv ks = lv') (k : dk_J p l e R s m args below meth c g A Q nL cells slots pc lv' st ws) : dk_J p l e R s m args below meth c g A Q nL cells slots pc lv st ws := fun H locs ls hP hD hS hl => k H locs ls hP hD hS (lv_sub hl ks hk)
theorem dk_get (X : dk_X p s m args meth c cc nL own ret g A) {C : String} {T : u_T} {N ci : Nat} {ty : Nat → FieldType} (q : dk_Cl C T N ci ty) {a index : Nat} {fs : List Value} {v : Value} (q0 k : Nat) (hk : k < N) (he : ws[q0]? = some (a, .inr (ci, fs))) (hv : fs[k]? = some v) (hlk : Cond.fieldLink own index (T k).1 (T k).2.1 (T k).2.2.1 ∈ dk_tb) (hdg : decode cc pc = .ok (.getfield index, 3))
    (kk : dk_J p l e R s m args below meth c g A Q nL cells slots (pc + 3) lv (v :: st) ws) : dk_J p l e R s m args below meth c g A Q nL cells slots pc lv (.ref a :: st) ws := fun H locs ls hP hD hS hl =>
  va_get X.1 X.2.1 X.2.2.2.2.1 q.1 X.2.2.2.1 X.2.2.2.2.2.1 hP q0 he q.2.1 k hk (X.2.2.2.2.1 _ hlk) (fun _ h => h) hv hdg (kk H locs ls hP hD hS hl)
theorem dk_put (X : dk_X p s m args meth c cc nL own ret g A) {C : String} {T : u_T} {N ci : Nat} {ty : Nat → FieldType} (q : dk_Cl C T N ci ty) {a index : Nat} {fs : List Value} {v : Value} {ty' : FieldType} {ws' : va_W} (q0 k : Nat) (hk : k < N) (he : ws[q0]? = some (a, .inr (ci, fs))) (hlk : Cond.fieldLink own index (T k).1 (T k).2.1 (T k).2.2.1 ∈ dk_tb) (hfin : (T k).2.2.2 = false) (hty : ty k = ty') (hn : narrow ty' v = v) (hfit : fits ty' v = true) (hlen : k < fs.length) (hset : ws.set q0 (a, .inr (ci, fs.set k v)) = ws') (hdg : decode cc pc = .ok (.putfield index, 3))
    (kk : dk_J p l e R s m args below meth c g A Q nL cells slots (pc + 3) lv st ws') : dk_J p l e R s m args below meth c g A Q nL cells slots pc lv (v :: .ref a :: st) ws := fun H locs ls hP hD hS hl =>
  va_put X.1 X.2.1 X.2.2.2.2.1 q.1 ty q.2.2.1 q.2.2.2 X.2.2.2.1 X.2.2.2.2.2.1 hP hD hS q0 he q.2.1 k hk (X.2.2.2.2.1 _ hlk) (fun _ h => h) hfin (hty ▸ q.2.2.1 k hk) hn hfit hlen hdg (fun H1 locs1 hP1 hD1 hS1 => kk H1 locs1 ls (hset ▸ hP1) (hset ▸ hD1) hS1 hl)
/-- an int field of a told world -/
theorem dk_puti {β : Type} {res : β} (X : dk_X p s m args meth c cc nL own ret g A) {C : String} {T : u_T} {N ci : Nat} {ty : Nat → FieldType} (q : dk_Cl C T N ci ty) {a index key : Nat} {fs : List Value} {x : Int32} {wd : dk_S → va_W} {S : dk_S} {K : dk_S → Option β} (q0 k : Nat) (hk : k < N) (he : (wd S)[q0]? = some (a, .inr (ci, fs))) (hlk : Cond.fieldLink own index (T k).1 (T k).2.1 (T k).2.2.1 ∈ dk_tb) (hfin : (T k).2.2.2 = false) (hty : ty k = .int) (hlen : k < fs.length) (hset : (wd S).set q0 (a, .inr (ci, fs.set k (.int x))) = wd (dk_U S key 0 x)) (hdg : decode cc pc = .ok (.putfield index, 3)) (hF : dk_p S key x K = some res)
    (kk : ∀ S' : dk_S, K S' = some res → dk_J p l e R s m args below meth c g A Q nL cells slots (pc + 3) lv st (wd S')) : dk_J p l e R s m args below meth c g A Q nL cells slots pc lv (.int x :: .ref a :: st) (wd S) :=
  dk_put X q q0 k hk he hlk hfin hty rfl rfl hlen hset hdg (kk _ hF)
theorem dk_putz {β : Type} {res : β} (X : dk_X p s m args meth c cc nL own ret g A) {C : String} {T : u_T} {N ci : Nat} {ty : Nat → FieldType} (q : dk_Cl C T N ci ty) {a index key : Nat} {fs : List Value} {x : Int32} {wd : dk_S → va_W} {S : dk_S} {K : dk_S → Option β} (q0 k : Nat) (hk : k < N) (he : (wd S)[q0]? = some (a, .inr (ci, fs))) (hlk : Cond.fieldLink own index (T k).1 (T k).2.1 (T k).2.2.1 ∈ dk_tb) (hfin : (T k).2.2.2 = false) (hty : ty k = .boolean) (hlen : k < fs.length) (hset : (wd S).set q0 (a, .inr (ci, fs.set k (.int x))) = wd (dk_U S key 0 x)) (hdg : decode cc pc = .ok (.putfield index, 3)) (hF : dk_b x (dk_p S key x K) = some res)
    (kk : ∀ S' : dk_S, K S' = some res → dk_J p l e R s m args below meth c g A Q nL cells slots (pc + 3) lv st (wd S')) : dk_J p l e R s m args below meth c g A Q nL cells slots pc lv (.int x :: .ref a :: st) (wd S) := by
  obtain ⟨h, hF⟩ := dk_b_out hF
  exact dk_put X q q0 k hk he hlk hfin hty (by rcases h with rfl | rfl <;> rfl) (by rcases h with rfl | rfl <;> rfl) hlen hset hdg (kk _ hF)
theorem dk_iald {β : Type} {res : β} {K : Int32 → Option β} (X : dk_X p s m args meth c cc nL own ret g A) {a n : Nat} {f : Nat → Int32} {i : Int32} (q0 : Nat) (ha : ws[q0]? = some (a, .inl (g.2.1 0, n, .inl f))) (hdg : decode cc pc = .ok (.iaload, 1)) (hF : dk_r n f i K = some res)
    (kk : ∀ v : Int32, K v = some res → dk_J p l e R s m args below meth c g A Q nL cells slots (pc + 1) lv (.int v :: st) ws) : dk_J p l e R s m args below meth c g A Q nL cells slots pc lv (.int i :: .ref a :: st) ws := fun H locs ls hP hD hS hl =>
  va_iald X.1 X.2.1 X.2.2.2.2.2.1 hP q0 0 ha rfl (dk_r_out hF).1 hdg (kk _ (dk_r_out hF).2 H locs ls hP hD hS hl)
theorem dk_zald {β : Type} {res : β} {K : Int32 → Option β} (X : dk_X p s m args meth c cc nL own ret g A) {a n : Nat} {f : Nat → Int32} {i : Int32} (q0 : Nat) (ha : ws[q0]? = some (a, .inl (g.2.1 1, n, .inl f))) (hdg : decode cc pc = .ok (.baload, 1)) (hF : dk_r n f i K = some res)
    (kk : ∀ v : Int32, K v = some res → dk_J p l e R s m args below meth c g A Q nL cells slots (pc + 1) lv (.int v :: st) ws) : dk_J p l e R s m args below meth c g A Q nL cells slots pc lv (.int i :: .ref a :: st) ws := fun H locs ls hP hD hS hl =>
  va_zald X.1 X.2.1 X.2.2.2.2.2.1 hP q0 1 ha rfl (dk_r_out hF).1 hdg (kk _ (dk_r_out hF).2 H locs ls hP hD hS hl)
theorem dk_bald {β : Type} {res : β} {K : Int32 → Option β} (X : dk_X p s m args meth c cc nL own ret g A) {a n : Nat} {f : Nat → Int32} {i : Int32} (q0 : Nat) (ha : ws[q0]? = some (a, .inl (g.2.1 2, n, .inl f))) (hdg : decode cc pc = .ok (.baload, 1)) (hF : dk_r n f i K = some res)
    (kk : ∀ v : Int32, K v = some res → dk_J p l e R s m args below meth c g A Q nL cells slots (pc + 1) lv (.int v :: st) ws) : dk_J p l e R s m args below meth c g A Q nL cells slots pc lv (.int i :: .ref a :: st) ws := fun H locs ls hP hD hS hl =>
  va_bald X.1 X.2.1 X.2.2.2.2.2.1 hP q0 2 ha rfl (dk_r_out hF).1 hdg (kk _ (dk_r_out hF).2 H locs ls hP hD hS hl)
theorem dk_lald {β : Type} {res : β} {K : Int64 → Option β} (X : dk_X p s m args meth c cc nL own ret g A) {a n : Nat} {f : Nat → Int64} {i : Int32} (q0 : Nat) (ha : ws[q0]? = some (a, .inl (g.2.1 3, n, .inr (.inl f)))) (hdg : decode cc pc = .ok (.laload, 1)) (hF : dk_rl n f i K = some res)
    (kk : ∀ v : Int64, K v = some res → dk_J p l e R s m args below meth c g A Q nL cells slots (pc + 1) lv (.long v :: st) ws) : dk_J p l e R s m args below meth c g A Q nL cells slots pc lv (.int i :: .ref a :: st) ws := fun H locs ls hP hD hS hl =>
  va_lald X.1 X.2.1 X.2.2.2.2.2.1 hP q0 3 ha rfl (dk_rl_out hF).1 hdg (kk _ (dk_rl_out hF).2 H locs ls hP hD hS hl)
theorem dk_alen (X : dk_X p s m args meth c cc nL own ret g A) {a : Nat} {cA : ClassId} {x : vp_A} {ty : FieldType} (q0 t0 : Nat) (ha : ws[q0]? = some (a, .inl (cA, x))) (ht : (dk_ty g)[t0]? = some (cA, ty)) (hdg : decode cc pc = .ok (.arraylength, 1))
    (kk : dk_J p l e R s m args below meth c g A Q nL cells slots (pc + 1) lv (.int (nI x.1) :: st) ws) : dk_J p l e R s m args below meth c g A Q nL cells slots pc lv (.ref a :: st) ws := fun H locs ls hP hD hS hl =>
  va_alen X.1 X.2.1 X.2.2.2.2.2.1 hP q0 t0 ha ht (v := nI x.1) rfl hdg (kk H locs ls hP hD hS hl)
theorem dk_iast {β : Type} {res : β} {K : dk_S → Option β} {wd : dk_S → va_W} {S : dk_S} (X : dk_X p s m args meth c cc nL own ret g A) {a n key : Nat} {f : Nat → Int32} {i x : Int32} (q0 : Nat) (ha : (wd S)[q0]? = some (a, .inl (g.2.1 0, n, .inl f))) (hset : (wd S).set q0 (a, .inl (g.2.1 0, n, .inl (upd f i.toNatClampNeg x))) = wd (dk_U S key i.toNatClampNeg x)) (hdg : decode cc pc = .ok (.iastore, 1)) (hF : dk_w S key n i x K = some res)
    (kk : ∀ S' : dk_S, K S' = some res → dk_J p l e R s m args below meth c g A Q nL cells slots (pc + 1) lv st (wd S')) : dk_J p l e R s m args below meth c g A Q nL cells slots pc lv (.int x :: .int i :: .ref a :: st) (wd S) := fun H locs ls hP hD hS hl =>
  va_iast X.1 X.2.1 X.2.2.2.2.2.1 hP hD hS q0 0 ha rfl (dk_w_out hF).1 hdg (fun H1 locs1 hP1 hD1 hS1 => kk _ (dk_w_out hF).2 H1 locs1 ls (hset ▸ hP1) (hset ▸ hD1) hS1 hl)
theorem dk_zast {β : Type} {res : β} {K : dk_S → Option β} {wd : dk_S → va_W} {S : dk_S} (X : dk_X p s m args meth c cc nL own ret g A) {a n key : Nat} {f : Nat → Int32} {i x : Int32} (q0 : Nat) (ha : (wd S)[q0]? = some (a, .inl (g.2.1 1, n, .inl f))) (hset : (wd S).set q0 (a, .inl (g.2.1 1, n, .inl (upd f i.toNatClampNeg (vp_nar .boolean x)))) = wd (dk_U S key i.toNatClampNeg (vp_nar .boolean x))) (hdg : decode cc pc = .ok (.bastore, 1)) (hF : dk_w S key n i (vp_nar .boolean x) K = some res)
    (kk : ∀ S' : dk_S, K S' = some res → dk_J p l e R s m args below meth c g A Q nL cells slots (pc + 1) lv st (wd S')) : dk_J p l e R s m args below meth c g A Q nL cells slots pc lv (.int x :: .int i :: .ref a :: st) (wd S) := fun H locs ls hP hD hS hl =>
  va_zast X.1 X.2.1 X.2.2.2.2.2.1 hP hD hS q0 1 ha rfl (dk_w_out hF).1 hdg (fun H1 locs1 hP1 hD1 hS1 => kk _ (dk_w_out hF).2 H1 locs1 ls (hset ▸ hP1) (hset ▸ hD1) hS1 hl)
theorem dk_bast {β : Type} {res : β} {K : dk_S → Option β} {wd : dk_S → va_W} {S : dk_S} (X : dk_X p s m args meth c cc nL own ret g A) {a n key : Nat} {f : Nat → Int32} {i x : Int32} (q0 : Nat) (ha : (wd S)[q0]? = some (a, .inl (g.2.1 2, n, .inl f))) (hset : (wd S).set q0 (a, .inl (g.2.1 2, n, .inl (upd f i.toNatClampNeg (vp_nar .byte x)))) = wd (dk_U S key i.toNatClampNeg (vp_nar .byte x))) (hdg : decode cc pc = .ok (.bastore, 1)) (hF : dk_w S key n i (vp_nar .byte x) K = some res)
    (kk : ∀ S' : dk_S, K S' = some res → dk_J p l e R s m args below meth c g A Q nL cells slots (pc + 1) lv st (wd S')) : dk_J p l e R s m args below meth c g A Q nL cells slots pc lv (.int x :: .int i :: .ref a :: st) (wd S) := fun H locs ls hP hD hS hl =>
  va_bast X.1 X.2.1 X.2.2.2.2.2.1 hP hD hS q0 2 ha rfl (dk_w_out hF).1 hdg (fun H1 locs1 hP1 hD1 hS1 => kk _ (dk_w_out hF).2 H1 locs1 ls (hset ▸ hP1) (hset ▸ hD1) hS1 hl)
theorem dk_tsOut (X : dk_X p s m args meth c cc nL own ret g A) {dflt lo hi : Int} {offs : Array Int} {len tgt : Nat} {x : Int32} (hdg : decode cc pc = .ok (.tableswitch dflt lo hi offs, len)) (h : x.toInt < lo ∨ hi < x.toInt) (ht : (pc : Int) + dflt = (tgt : Int))
    (kk : dk_J p l e R s m args below meth c g A Q nL cells slots tgt lv st ws) : dk_J p l e R s m args below meth c g A Q nL cells slots pc lv (.int x :: st) ws := fun H locs ls hP hD hS hl =>
  lv_tableOut X.1 X.2.1 hdg h ht (kk H locs ls hP hD hS hl)
theorem dk_tsIn (X : dk_X p s m args meth c cc nL own ret g A) {dflt lo hi : Int} {offs : Array Int} {len tgt : Nat} {x : Int32} {off v : Int} (hdg : decode cc pc = .ok (.tableswitch dflt lo hi offs, len)) (hv : x.toInt = v) (h1 : ¬ v < lo) (h2 : ¬ hi < v) (ho : offs[(v - lo).toNat]? = some off) (ht : (pc : Int) + off = (tgt : Int))
    (kk : dk_J p l e R s m args below meth c g A Q nL cells slots tgt lv st ws) : dk_J p l e R s m args below meth c g A Q nL cells slots pc lv (.int x :: st) ws := fun H locs ls hP hD hS hl =>
  lv_tableIn X.1 X.2.1 hdg (by rw [hv]; exact h1) (by rw [hv]; exact h2) (by rw [hv]; exact ho) ht (kk H locs ls hP hD hS hl)
theorem dk_lsw (X : dk_X p s m args meth c cc nL own ret g A) {dflt : Int} {ps : Array (Int × Int)} {len tgt : Nat} {x : Int32} {off : Int} (hdg : decode cc pc = .ok (.lookupswitch dflt ps, len)) (hp : (ps.toList.zip (ps.toList.drop 1)).all (fun (a, next) => a.1 < next.1) = true) (ho : Op.lookupswitch.offset ps.toList dflt x.toInt = off) (ht : (pc : Int) + off = (tgt : Int))
    (kk : dk_J p l e R s m args below meth c g A Q nL cells slots tgt lv st ws) : dk_J p l e R s m args below meth c g A Q nL cells slots pc lv (.int x :: st) ws := fun H locs ls hP hD hS hl =>
  lv_lookup X.1 X.2.1 hdg hp ho ht (kk H locs ls hP hD hS hl)
theorem dk_ldc (X : dk_X p s m args meth c cc nL own ret g A) {index : Nat} {v : Int32} (hc : Cond.constant own index v ∈ dk_tb) (hdg : decode cc pc = .ok (.ldc index, 2))
    (kk : dk_J p l e R s m args below meth c g A Q nL cells slots (pc + 2) lv (.int v :: st) ws) : dk_J p l e R s m args below meth c g A Q nL cells slots pc lv st ws := fun H locs ls hP hD hS hl =>
  lv_ldc X.1 X.2.1 X.2.2.2.1 (X.2.2.2.2.1 _ hc) hdg (kk H locs ls hP hD hS hl)
theorem dk_ldc2 (X : dk_X p s m args meth c cc nL own ret g A) {index : Nat} {v : Int64} (hc : Cond.constantLong own index v ∈ dk_tb) (hdg : decode cc pc = .ok (.ldc2_w index, 3))
    (kk : dk_J p l e R s m args below meth c g A Q nL cells slots (pc + 3) lv (.long v :: st) ws) : dk_J p l e R s m args below meth c g A Q nL cells slots pc lv st ws := fun H locs ls hP hD hS hl =>
  lv_ldc2 X.1 X.2.1 X.2.2.2.1 (X.2.2.2.2.1 _ hc) hdg (kk H locs ls hP hD hS hl)
end DKJ
/-! ===== contracts: a method told by a function F of the world's numbers ===== -/
def dk_ws (y : MethodName) (b : ByteArray) (nL : Nat) (ret : Option FieldType) : List Cond := .code y b nL ret :: dk_tb
def dk_In (g : dk_G) (ws : va_W) (sz : Nat) (U : State) : Prop := U.heap.size = sz ∧ va_P g.1 dk_cls ws U.heap ∧ va_K g.1 dk_cls (dk_ty g) U ∧ va_D (fun _ => True) ws ∧ dk_Z g (va_A ws sz) U U.heap
def dk_Out (g : dk_G) (A : Nat → Prop) (ws : va_W) (t : State) : Prop := va_P g.1 dk_cls ws t.heap ∧ va_K g.1 dk_cls (dk_ty g) t ∧ va_D A ws
def dk_Mi (l : Launch) (g : dk_G) (y : MethodName) (b : ByteArray) (nL : Nat) (rm : Room) (ret : Option FieldType) (av : List Value) (wd : dk_S → va_W) (S : dk_S) (F : Option (Int32 × dk_S)) : Prop := ∀ (sz : Nat) (res : Int32 × dk_S), F = some res → Met l y (dk_ws y b nL ret) rm (va_Pc av (dk_In g (wd S) sz)) (va_Qi (fun r u => (r, u) = res) (fun u t => dk_Out g (va_A (wd S) sz) (wd u) t) (va_A (wd S) sz)) 0 0 (va_A (wd S) sz)
def dk_Ml (l : Launch) (g : dk_G) (y : MethodName) (b : ByteArray) (nL : Nat) (rm : Room) (ret : Option FieldType) (av : List Value) (wd : dk_S → va_W) (S : dk_S) (F : Option (Int64 × dk_S)) : Prop := ∀ (sz : Nat) (res : Int64 × dk_S), F = some res → Met l y (dk_ws y b nL ret) rm (va_Pc av (dk_In g (wd S) sz)) (va_Ql (fun r u => (r, u) = res) (fun u t => dk_Out g (va_A (wd S) sz) (wd u) t) (va_A (wd S) sz)) 0 0 (va_A (wd S) sz)
def dk_Mv (l : Launch) (g : dk_G) (y : MethodName) (b : ByteArray) (nL : Nat) (rm : Room) (ret : Option FieldType) (av : List Value) (wd : dk_S → va_W) (S : dk_S) (F : Option dk_S) : Prop := ∀ (sz : Nat) (res : dk_S), F = some res → Met l y (dk_ws y b nL ret) rm (va_Pc av (dk_In g (wd S) sz)) (va_Qv (fun u => u = res) (fun u t => dk_Out g (va_A (wd S) sz) (wd u) t) (va_A (wd S) sz)) 0 0 (va_A (wd S) sz)
theorem dk_In_blind (g : dk_G) (ws : va_W) (sz : Nat) (av : List Value) : FrameBlind (va_Pc av (dk_In g ws sz)) := by
  intro a U gg mk q
  obtain ⟨q0, q1, qP, qK, qD, qZ⟩ := q
  exact ⟨q0, q1, qP, va_K.moved (u := U) (U := U.calling gg mk a) (Vm.Alike.refl U.vm) qK, qD, dk_Z.same (U := U.calling gg mk a) rfl qZ⟩
/-- where a method's answer goes -/
def dk_Ri (p : Program) (l : Launch) (e : Env) (R : Room) (s : State) (m : MethodId) (args : Array Value) (below : List Frame) (meth : Method) (c : Code) (g : dk_G) (A : Nat → Prop) (Q : State → Prop) (nL : Nat) (cc : ByteArray) (ret : Option FieldType) (wd : dk_S → va_W) (res : Int32 × dk_S) : Prop :=
  ∀ (pc : Nat) (lv : List (Nat × Value)), decode cc pc = .ok (.ireturn, 1) → (ret = some .int ∨ (ret = some .boolean ∧ (res.1 = 0 ∨ res.1 = 1))) → dk_J p l e R s m args below meth c g A Q nL 0 0 pc lv [.int res.1] (wd res.2)
def dk_Rl (p : Program) (l : Launch) (e : Env) (R : Room) (s : State) (m : MethodId) (args : Array Value) (below : List Frame) (meth : Method) (c : Code) (g : dk_G) (A : Nat → Prop) (Q : State → Prop) (nL : Nat) (cc : ByteArray) (ret : Option FieldType) (wd : dk_S → va_W) (res : Int64 × dk_S) : Prop :=
  ∀ (pc : Nat) (lv : List (Nat × Value)), decode cc pc = .ok (.lreturn, 1) → dk_J p l e R s m args below meth c g A Q nL 0 0 pc lv [.long res.1] (wd res.2)
def dk_Rv (p : Program) (l : Launch) (e : Env) (R : Room) (s : State) (m : MethodId) (args : Array Value) (below : List Frame) (meth : Method) (c : Code) (g : dk_G) (A : Nat → Prop) (Q : State → Prop) (nL : Nat) (cc : ByteArray) (ret : Option FieldType) (wd : dk_S → va_W) (res : dk_S) : Prop :=
  ∀ (pc : Nat) (lv : List (Nat × Value)), decode cc pc = .ok (.return_, 1) → dk_J p l e R s m args below meth c g A Q nL 0 0 pc lv [] (wd res)
section DKR
variable {p : Program} {l : Launch} {e : Env} {R : Room} {s : State} {m : MethodId} {args : Array Value} {below : List Frame} {meth : Method} {c : Code} {g : dk_G} {A : Nat → Prop} {Q : State → Prop} {nL pc : Nat} {lv : List (Nat × Value)} {cc : ByteArray} {own : String} {ret : Option FieldType} {wd : dk_S → va_W} {S : dk_S}
theorem dk_reti {x : Int32} {res : Int32 × dk_S} (hR : dk_Ri p l e R s m args below meth c g A Q nL cc (some .int) wd res) (hF : some (x, S) = some res) (hdg : decode cc pc = .ok (.ireturn, 1)) : dk_J p l e R s m args below meth c g A Q nL 0 0 pc lv [.int x] (wd S) := by
  cases hF
  exact hR pc lv hdg (Or.inl rfl)
theorem dk_retz {x : Int32} {res : Int32 × dk_S} (hR : dk_Ri p l e R s m args below meth c g A Q nL cc (some .boolean) wd res) (hF : dk_b x (some (x, S)) = some res) (hdg : decode cc pc = .ok (.ireturn, 1)) : dk_J p l e R s m args below meth c g A Q nL 0 0 pc lv [.int x] (wd S) := by
  obtain ⟨h, hF⟩ := dk_b_out hF
  cases hF
  exact hR pc lv hdg (Or.inr ⟨rfl, h⟩)
theorem dk_retl {x : Int64} {res : Int64 × dk_S} (hR : dk_Rl p l e R s m args below meth c g A Q nL cc ret wd res) (hF : some (x, S) = some res) (hdg : decode cc pc = .ok (.lreturn, 1)) : dk_J p l e R s m args below meth c g A Q nL 0 0 pc lv [.long x] (wd S) := by
  cases hF
  exact hR pc lv hdg
theorem dk_retv {res : dk_S} (hR : dk_Rv p l e R s m args below meth c g A Q nL cc ret wd res) (hF : some S = some res) (hdg : decode cc pc = .ok (.return_, 1)) : dk_J p l e R s m args below meth c g A Q nL 0 0 pc lv [] (wd S) := by
  cases hF
  exact hR pc lv hdg
end DKR
section DKE
variable {l : Launch} {g : dk_G} {y : MethodName} {b : ByteArray} {nL : Nat} {rm : Room} {ret : Option FieldType} {av : List Value} {wd : dk_S → va_W} {S : dk_S}
theorem dk_enteri {F : Option (Int32 × dk_S)} (hy : plainName y.cls = true) (hn : (lg_sl av).length ≤ nL)
    (body : ∀ (p : Program) (e : Env) (s : State) (m : MethodId) (args : Array Value) (below : List Frame) (meth : Method) (c : Code) (A : Nat → Prop) (Q : State → Prop) (res : Int32 × dk_S), F = some res → dk_X p s m args meth c b nL y.cls ret g A → dk_Ri p l e rm s m args below meth c g A Q nL b ret wd res → dk_J p l e rm s m args below meth c g A Q nL 0 0 0 (lv_args 0 av) [] (wd S)) : dk_Mi l g y b nL rm ret av wd S F := by
  intro sz res hF
  refine Met.ofW (cc := b) (maxL := nL) (ret := ret) hy rfl ?_
  intro p e s m args below meth c s₁ B hml hv
  obtain ⟨rfl, hsz, hP, hK, hD0, hZ⟩ := hv
  subst hsz
  have hts0 := atoms_spec (ws := dk_ws y b nL ret) B.pre
  have hl := lv_entry av (n := nL) hn
  rw [lg_entry_eq]
  refine body p e s m _ below meth c _ _ res hF ⟨B.exec, B.bytes, hml, findClass_of_methodNamed B.named, fun w hw => hts0 w (List.mem_cons_of_mem _ hw), hK, fun q h => Or.inr h, B.returns, B.notSynchronized, hZ⟩ ?_ s.heap [] _ hP (hD0.self (sz := s.heap.size)) va_S.rf hl
  intro pc lv hdg hr H locs ls hP hD hS hl
  have hq : ∀ t : State, t.heap = H → s.WarmedH t.vm → (va_Qi (fun r u => (r, u) = res) (fun u t => dk_Out g (va_A (wd S) s.heap.size) (wd u) t) (va_A (wd S) s.heap.size)) av.toArray s (.returned (some (.int res.1))) t := fun t ht hW => ⟨⟨res.1, res.2, rfl, rfl, by rw [ht]; exact hP, va_K.moved hW.alike hK, hD⟩, hS.F ht⟩
  have hret := B.returns
  have hlk := B.notSynchronized
  rcases hr with rfl | ⟨rfl, h01⟩
  · exact W.iret B.exec B.bytes hret hq hS.2.2 hdg hlk
  · exact W.zret B.exec B.bytes hret (by rcases h01 with h | h <;> rw [h] <;> rfl) hq hS.2.2 hdg hlk
theorem dk_enterl {F : Option (Int64 × dk_S)} (hy : plainName y.cls = true) (hret : ret = some .long) (hn : (lg_sl av).length ≤ nL)
    (body : ∀ (p : Program) (e : Env) (s : State) (m : MethodId) (args : Array Value) (below : List Frame) (meth : Method) (c : Code) (A : Nat → Prop) (Q : State → Prop) (res : Int64 × dk_S), F = some res → dk_X p s m args meth c b nL y.cls ret g A → dk_Rl p l e rm s m args below meth c g A Q nL b ret wd res → dk_J p l e rm s m args below meth c g A Q nL 0 0 0 (lv_args 0 av) [] (wd S)) : dk_Ml l g y b nL rm ret av wd S F := by
  intro sz res hF
  refine Met.ofW (cc := b) (maxL := nL) (ret := ret) hy rfl ?_
  intro p e s m args below meth c s₁ B hml hv
  obtain ⟨rfl, hsz, hP, hK, hD0, hZ⟩ := hv
  subst hsz
  have hts0 := atoms_spec (ws := dk_ws y b nL ret) B.pre
  have hl := lv_entry av (n := nL) hn
  rw [lg_entry_eq]
  refine body p e s m _ below meth c _ _ res hF ⟨B.exec, B.bytes, hml, findClass_of_methodNamed B.named, fun w hw => hts0 w (List.mem_cons_of_mem _ hw), hK, fun q h => Or.inr h, B.returns, B.notSynchronized, hZ⟩ ?_ s.heap [] _ hP (hD0.self (sz := s.heap.size)) va_S.rf hl
  intro pc lv hdg H locs ls hP hD hS hl
  have hq : ∀ t : State, t.heap = H → s.WarmedH t.vm → (va_Ql (fun r u => (r, u) = res) (fun u t => dk_Out g (va_A (wd S) s.heap.size) (wd u) t) (va_A (wd S) s.heap.size)) av.toArray s (.returned (some (.long res.1))) t := fun t ht hW => ⟨⟨res.1, res.2, rfl, rfl, by rw [ht]; exact hP, va_K.moved hW.alike hK, hD⟩, hS.F ht⟩
  have hrt := B.returns
  have hlk := B.notSynchronized
  exact W.lret B.exec B.bytes (hrt.trans hret) hq hS.2.2 hdg hlk
theorem dk_enterv {F : Option dk_S} (hy : plainName y.cls = true) (hret : ret = none) (hn : (lg_sl av).length ≤ nL)
    (body : ∀ (p : Program) (e : Env) (s : State) (m : MethodId) (args : Array Value) (below : List Frame) (meth : Method) (c : Code) (A : Nat → Prop) (Q : State → Prop) (res : dk_S), F = some res → dk_X p s m args meth c b nL y.cls ret g A → dk_Rv p l e rm s m args below meth c g A Q nL b ret wd res → dk_J p l e rm s m args below meth c g A Q nL 0 0 0 (lv_args 0 av) [] (wd S)) : dk_Mv l g y b nL rm ret av wd S F := by
  intro sz res hF
  refine Met.ofW (cc := b) (maxL := nL) (ret := ret) hy rfl ?_
  intro p e s m args below meth c s₁ B hml hv
  obtain ⟨rfl, hsz, hP, hK, hD0, hZ⟩ := hv
  subst hsz
  have hts0 := atoms_spec (ws := dk_ws y b nL ret) B.pre
  have hl := lv_entry av (n := nL) hn
  rw [lg_entry_eq]
  refine body p e s m _ below meth c _ _ res hF ⟨B.exec, B.bytes, hml, findClass_of_methodNamed B.named, fun w hw => hts0 w (List.mem_cons_of_mem _ hw), hK, fun q h => Or.inr h, B.returns, B.notSynchronized, hZ⟩ ?_ s.heap [] _ hP (hD0.self (sz := s.heap.size)) va_S.rf hl
  intro pc lv hdg H locs ls hP hD hS hl
  have hq : ∀ t : State, t.heap = H → s.WarmedH t.vm → (va_Qv (fun u => u = res) (fun u t => dk_Out g (va_A (wd S) s.heap.size) (wd u) t) (va_A (wd S) s.heap.size)) av.toArray s (.returned none) t := fun t ht hW => ⟨⟨res, rfl, rfl, by rw [ht]; exact hP, va_K.moved hW.alike hK, hD⟩, hS.F ht⟩
  have hrt := B.returns
  have hlk := B.notSynchronized
  exact W.vret B.exec B.bytes (hrt.trans hret) hq hS.2.2 hdg hlk
end DKE
/-! ===== calls ===== -/
theorem dk_good : dk_tb.all goodWord = true := List.all_eq_true.mpr (fun _ h => (List.mem_filter.mp h).2)
theorem dk_goodIn {ws : List Cond} (h : ∀ w ∈ ws, w ∈ dk_tb) : GoodIn dk_tb ws := fun w hw => ⟨h w hw, good_of_word (List.all_eq_true.mp dk_good w (h w hw))⟩
def dk_Yv (y : MethodName) (b : ByteArray) (nL : Nat) (ret : Option FieldType) (n : Nat) : Prop := Cond.instanceMethod y ∈ dk_tb ∧ Cond.selects y.cls y y ∈ dk_tb ∧ Cond.initialized y.cls ∈ dk_tb ∧ Cond.code y b nL ret ∈ dk_tb ∧ (y.cls ≠ "java/lang/invoke/MethodHandle" ∧ y.cls ≠ "java/lang/invoke/VarHandle" ∧ (parseMethodDescriptor y.desc).map (fun d => d.parameters.length) = some n)
def dk_Ys (y : MethodName) (b : ByteArray) (nL : Nat) (ret : Option FieldType) (n : Nat) : Prop := Cond.static y ∈ dk_tb ∧ Cond.initialized y.cls ∈ dk_tb ∧ Cond.code y b nL ret ∈ dk_tb ∧ (y.cls ≠ "java/lang/invoke/MethodHandle" ∧ y.cls ≠ "java/lang/invoke/VarHandle" ∧ (parseMethodDescriptor y.desc).map (fun d => d.parameters.length) = some n)
theorem dk_cwV {R : Room} {s : State} {args : Array Value} {y : MethodName} {b : ByteArray} {nL n idx : Nat} {ret : Option FieldType} {rm : Room} {own : String} (hts : ∀ w ∈ dk_tb, w.before args s = true) (hy : dk_Yv y b nL ret n) (hlk : Cond.methodLink own idx y ∈ dk_tb) (hrc : rm.cells = 0) (hrs : rm.slots = 0) (hR : rm.frames + 1 ≤ R.frames ∧ 8 + (nL + 11) + rm.locals ≤ R.locals) : CallW R s args own y.cls idx y b nL ret (dk_ws y b nL ret) rm 0 0 n :=
  cwV n hts (dk_goodIn (fun w hw => by
    rcases List.mem_append.mp hw with h | h
    · simp only [List.mem_cons, List.not_mem_nil, or_false] at h
      rcases h with rfl | rfl | rfl | rfl
      · exact hlk
      · exact hy.1
      · exact hy.2.1
      · exact hy.2.2.1
    · rcases List.mem_cons.mp h with rfl | h
      · exact hy.2.2.2.1
      · exact h)) rfl hrc hrs ⟨rfl, hy.2.2.2.2⟩ hR
theorem dk_cwS {R : Room} {s : State} {args : Array Value} {y : MethodName} {b : ByteArray} {nL n idx : Nat} {ret : Option FieldType} {rm : Room} {own : String} (hts : ∀ w ∈ dk_tb, w.before args s = true) (hy : dk_Ys y b nL ret n) (hlk : Cond.methodLink own idx y ∈ dk_tb) (hrc : rm.cells = 0) (hrs : rm.slots = 0) (hR : rm.frames + 1 ≤ R.frames ∧ 8 + (nL + 11) + rm.locals ≤ R.locals) : CallB R s args own idx y b nL ret (dk_ws y b nL ret) rm 0 0 n ∧ (Cond.static y).before args s = true :=
  ⟨callB_of n hts (dk_goodIn (fun w hw => by
      rcases List.mem_cons.mp hw with rfl | h
      · exact hy.2.2.1
      · exact h)) rfl hrc hrs (hts _ hy.2.1) (hts _ hlk) hy.2.2.2 hR, hts _ hy.1⟩
section DKC
variable {p : Program} {l : Launch} {e : Env} {R : Room} {s : State} {m : MethodId} {args : Array Value} {below : List Frame} {meth : Method} {c : Code} {g : dk_G} {A : Nat → Prop} {Q : State → Prop} {nL cells slots pc : Nat} {lv : List (Nat × Value)} {st st0 : List Value} {cc : ByteArray} {own : String} {ret : Option FieldType} {wd : dk_S → va_W} {S : dk_S}
theorem dk_free (X : dk_X p s m args meth c cc nL own ret g A) {ws : va_W} {H : Heap} {locs : List Loc} (hD : va_D A ws) (hS : va_S A s.heap H locs) : ∀ q, va_A ws H.size q → A q := by
  intro q h
  rcases h with ⟨k, e, h⟩ | h
  · exact hD.2 k (q, e) h
  · exact X.2.2.2.2.2.2.1 q (Nat.le_trans hS.1 h)
theorem dk_start (X : dk_X p s m args meth c cc nL own ret g A) {ws : va_W} {H : Heap} {locs : List Loc} (hP : va_P g.1 dk_cls ws H) (hD : va_D A ws) (hS : va_S A s.heap H locs) (U : State) (hU : U.heap = H) (hW : s.WarmedH U.vm) : dk_In g ws H.size U := by
  refine ⟨by rw [hU], by rw [hU]; exact hP, va_K.moved hW.alike X.2.2.2.2.2.1, hD.weaken (fun _ _ _ _ => trivial), ?_⟩
  rw [hU]
  exact ((X.2.2.2.2.2.2.2.2.2.kept (fun a h1 h2 => hS.2.1 a h1 h2)).narrow (dk_free X hD hS)).warm hW
theorem dk_callVi {β : Type} {res : β} {y : MethodName} {b : ByteArray} {nL2 n idx : Nat} {ret2 : Option FieldType} {rm : Room} {a ci : Nat} {fs : List Value} {r : vw_C} {F : Option (Int32 × dk_S)} {K : Int32 → dk_S → Option β} (X : dk_X p s m args meth c cc nL own ret g A) (hy : dk_Yv y b nL2 ret2 n) (As : List Value) (hM : dk_Mi l g y b nL2 rm ret2 (.ref a :: As) wd S F) (q0 : Nat) (he : (wd S)[q0]? = some (a, .inr (ci, fs))) (hc : dk_cls[ci]? = some r) (hrc : r.1 = y.cls) (hlk : Cond.methodLink own idx y ∈ dk_tb) (hst : st0 = As.reverse ++ .ref a :: st) (hAs : As.length = n) (hrm : rm.cells = 0 ∧ rm.slots = 0 ∧ rm.frames + 1 ≤ R.frames ∧ 8 + (nL2 + 11) + rm.locals ≤ R.locals ∧ cells ≤ R.cells ∧ slots ≤ R.slots) (hcat : (st.map fun v => v.category).sum ≤ 8) (hdg : decode cc pc = .ok (.invokevirtual idx, 3)) (hF : dk_c F K = some res)
    (kk : ∀ (r : Int32) (S' : dk_S), K r S' = some res → dk_J p l e R s m args below meth c g A Q nL cells slots (pc + 3) lv (.int r :: st) (wd S')) : dk_J p l e R s m args below meth c g A Q nL cells slots pc lv st0 (wd S) := by
  obtain ⟨v, hv, hF⟩ := dk_c_out hF
  intro H locs ls hP hD hS hl
  obtain ⟨h1, h2, h3, h4, h5, h6⟩ := hrm
  have hx := X
  obtain ⟨x1, x2, x3, x4, x5, x6, -⟩ := X
  have hrecv := va_recv x6 hP hc he
  rw [hrc] at hrecv
  refine va_calli (va_runV (As := As) (rest := st) ⟨x1, x2, x3, x4, x5⟩ (hM H.size v hv) (dk_cwV x5 hy hlk h1 h2 ⟨h3, h4⟩) ⟨dk_In_blind _ _ _ _, hrecv, fun U hU hW => ⟨rfl, dk_start hx hP hD hS U hU hW⟩⟩ rfl hAs hl.1 hst (lv_room hcat) hdg ⟨h5, h6⟩) hS (fun q _ h => dk_free hx hD hS q h) (dk_free hx hD hS) (fun r u t H1 locs1 ht hvm hw hB hz1 hk1 hS1 => ?_)
  obtain ⟨b1, b2, b3⟩ := hB
  cases hw
  rw [ht] at b1
  exact kk r u hF H1 locs1 ls b1 (b3.weaken (fun k q _ h => dk_free hx hD hS q.1 h)) hS1 hl
theorem dk_callVl {β : Type} {res : β} {y : MethodName} {b : ByteArray} {nL2 n idx : Nat} {ret2 : Option FieldType} {rm : Room} {a ci : Nat} {fs : List Value} {r : vw_C} {F : Option (Int64 × dk_S)} {K : Int64 → dk_S → Option β} (X : dk_X p s m args meth c cc nL own ret g A) (hy : dk_Yv y b nL2 ret2 n) (As : List Value) (hM : dk_Ml l g y b nL2 rm ret2 (.ref a :: As) wd S F) (q0 : Nat) (he : (wd S)[q0]? = some (a, .inr (ci, fs))) (hc : dk_cls[ci]? = some r) (hrc : r.1 = y.cls) (hlk : Cond.methodLink own idx y ∈ dk_tb) (hst : st0 = As.reverse ++ .ref a :: st) (hAs : As.length = n) (hrm : rm.cells = 0 ∧ rm.slots = 0 ∧ rm.frames + 1 ≤ R.frames ∧ 8 + (nL2 + 11) + rm.locals ≤ R.locals ∧ cells ≤ R.cells ∧ slots ≤ R.slots) (hcat : (st.map fun v => v.category).sum ≤ 8) (hdg : decode cc pc = .ok (.invokevirtual idx, 3)) (hF : dk_c F K = some res)
    (kk : ∀ (r : Int64) (S' : dk_S), K r S' = some res → dk_J p l e R s m args below meth c g A Q nL cells slots (pc + 3) lv (.long r :: st) (wd S')) : dk_J p l e R s m args below meth c g A Q nL cells slots pc lv st0 (wd S) := by
  obtain ⟨v, hv, hF⟩ := dk_c_out hF
  intro H locs ls hP hD hS hl
  obtain ⟨h1, h2, h3, h4, h5, h6⟩ := hrm
  have hx := X
  obtain ⟨x1, x2, x3, x4, x5, x6, -⟩ := X
  have hrecv := va_recv x6 hP hc he
  rw [hrc] at hrecv
  refine va_calll (va_runV (As := As) (rest := st) ⟨x1, x2, x3, x4, x5⟩ (hM H.size v hv) (dk_cwV x5 hy hlk h1 h2 ⟨h3, h4⟩) ⟨dk_In_blind _ _ _ _, hrecv, fun U hU hW => ⟨rfl, dk_start hx hP hD hS U hU hW⟩⟩ rfl hAs hl.1 hst (lv_room hcat) hdg ⟨h5, h6⟩) hS (fun q _ h => dk_free hx hD hS q h) (dk_free hx hD hS) (fun r u t H1 locs1 ht hvm hw hB hz1 hk1 hS1 => ?_)
  obtain ⟨b1, b2, b3⟩ := hB
  cases hw
  rw [ht] at b1
  exact kk r u hF H1 locs1 ls b1 (b3.weaken (fun k q _ h => dk_free hx hD hS q.1 h)) hS1 hl
theorem dk_callVv {β : Type} {res : β} {y : MethodName} {b : ByteArray} {nL2 n idx : Nat} {ret2 : Option FieldType} {rm : Room} {a ci : Nat} {fs : List Value} {r : vw_C} {F : Option dk_S} {K : dk_S → Option β} (X : dk_X p s m args meth c cc nL own ret g A) (hy : dk_Yv y b nL2 ret2 n) (As : List Value) (hM : dk_Mv l g y b nL2 rm ret2 (.ref a :: As) wd S F) (q0 : Nat) (he : (wd S)[q0]? = some (a, .inr (ci, fs))) (hc : dk_cls[ci]? = some r) (hrc : r.1 = y.cls) (hlk : Cond.methodLink own idx y ∈ dk_tb) (hst : st0 = As.reverse ++ .ref a :: st) (hAs : As.length = n) (hrm : rm.cells = 0 ∧ rm.slots = 0 ∧ rm.frames + 1 ≤ R.frames ∧ 8 + (nL2 + 11) + rm.locals ≤ R.locals ∧ cells ≤ R.cells ∧ slots ≤ R.slots) (hcat : (st.map fun v => v.category).sum ≤ 8) (hdg : decode cc pc = .ok (.invokevirtual idx, 3)) (hF : dk_cv F K = some res)
    (kk : ∀ (S' : dk_S), K S' = some res → dk_J p l e R s m args below meth c g A Q nL cells slots (pc + 3) lv st (wd S')) : dk_J p l e R s m args below meth c g A Q nL cells slots pc lv st0 (wd S) := by
  obtain ⟨v, hv, hF⟩ := dk_cv_out hF
  intro H locs ls hP hD hS hl
  obtain ⟨h1, h2, h3, h4, h5, h6⟩ := hrm
  have hx := X
  obtain ⟨x1, x2, x3, x4, x5, x6, -⟩ := X
  have hrecv := va_recv x6 hP hc he
  rw [hrc] at hrecv
  refine va_callv (va_runV (As := As) (rest := st) ⟨x1, x2, x3, x4, x5⟩ (hM H.size v hv) (dk_cwV x5 hy hlk h1 h2 ⟨h3, h4⟩) ⟨dk_In_blind _ _ _ _, hrecv, fun U hU hW => ⟨rfl, dk_start hx hP hD hS U hU hW⟩⟩ rfl hAs hl.1 hst (lv_room hcat) hdg ⟨h5, h6⟩) hS (fun q _ h => dk_free hx hD hS q h) (dk_free hx hD hS) (fun u t H1 locs1 ht hvm hw hB hz1 hk1 hS1 => ?_)
  obtain ⟨b1, b2, b3⟩ := hB
  subst hw
  rw [ht] at b1
  exact kk _ hF H1 locs1 ls b1 (b3.weaken (fun k q _ h => dk_free hx hD hS q.1 h)) hS1 hl
theorem dk_callSi {β : Type} {res : β} {y : MethodName} {b : ByteArray} {nL2 n idx : Nat} {ret2 : Option FieldType} {rm : Room} {F : Option (Int32 × dk_S)} {K : Int32 → dk_S → Option β} (X : dk_X p s m args meth c cc nL own ret g A) (hy : dk_Ys y b nL2 ret2 n) (As : List Value) (hM : dk_Mi l g y b nL2 rm ret2 As wd S F) (hlk : Cond.methodLink own idx y ∈ dk_tb) (hst : st0 = As.reverse ++ st) (hAs : As.length = n) (hrm : rm.cells = 0 ∧ rm.slots = 0 ∧ rm.frames + 1 ≤ R.frames ∧ 8 + (nL2 + 11) + rm.locals ≤ R.locals ∧ cells ≤ R.cells ∧ slots ≤ R.slots) (hcat : (st.map fun v => v.category).sum ≤ 8) (hdg : decode cc pc = .ok (.invokestatic idx, 3)) (hF : dk_c F K = some res)
    (kk : ∀ (r : Int32) (S' : dk_S), K r S' = some res → dk_J p l e R s m args below meth c g A Q nL cells slots (pc + 3) lv (.int r :: st) (wd S')) : dk_J p l e R s m args below meth c g A Q nL cells slots pc lv st0 (wd S) := by
  obtain ⟨v, hv, hF⟩ := dk_c_out hF
  intro H locs ls hP hD hS hl
  obtain ⟨h1, h2, h3, h4, h5, h6⟩ := hrm
  have hx := X
  obtain ⟨x1, x2, x3, x4, x5, x6, -⟩ := X
  refine va_calli (va_runS (As := As) (rest := st) ⟨x1, x2, x3, x4, x5⟩ (hM H.size v hv) (dk_cwS x5 hy hlk h1 h2 ⟨h3, h4⟩) ⟨dk_In_blind _ _ _ _, fun U hU hW => ⟨rfl, dk_start hx hP hD hS U hU hW⟩⟩ rfl hAs hl.1 hst (lv_room hcat) hdg ⟨h5, h6⟩) hS (fun q _ h => dk_free hx hD hS q h) (dk_free hx hD hS) (fun r u t H1 locs1 ht hvm hw hB hz1 hk1 hS1 => ?_)
  obtain ⟨b1, b2, b3⟩ := hB
  cases hw
  rw [ht] at b1
  exact kk r u hF H1 locs1 ls b1 (b3.weaken (fun k q _ h => dk_free hx hD hS q.1 h)) hS1 hl
theorem dk_callSl {β : Type} {res : β} {y : MethodName} {b : ByteArray} {nL2 n idx : Nat} {ret2 : Option FieldType} {rm : Room} {F : Option (Int64 × dk_S)} {K : Int64 → dk_S → Option β} (X : dk_X p s m args meth c cc nL own ret g A) (hy : dk_Ys y b nL2 ret2 n) (As : List Value) (hM : dk_Ml l g y b nL2 rm ret2 As wd S F) (hlk : Cond.methodLink own idx y ∈ dk_tb) (hst : st0 = As.reverse ++ st) (hAs : As.length = n) (hrm : rm.cells = 0 ∧ rm.slots = 0 ∧ rm.frames + 1 ≤ R.frames ∧ 8 + (nL2 + 11) + rm.locals ≤ R.locals ∧ cells ≤ R.cells ∧ slots ≤ R.slots) (hcat : (st.map fun v => v.category).sum ≤ 8) (hdg : decode cc pc = .ok (.invokestatic idx, 3)) (hF : dk_c F K = some res)
    (kk : ∀ (r : Int64) (S' : dk_S), K r S' = some res → dk_J p l e R s m args below meth c g A Q nL cells slots (pc + 3) lv (.long r :: st) (wd S')) : dk_J p l e R s m args below meth c g A Q nL cells slots pc lv st0 (wd S) := by
  obtain ⟨v, hv, hF⟩ := dk_c_out hF
  intro H locs ls hP hD hS hl
  obtain ⟨h1, h2, h3, h4, h5, h6⟩ := hrm
  have hx := X
  obtain ⟨x1, x2, x3, x4, x5, x6, -⟩ := X
  refine va_calll (va_runS (As := As) (rest := st) ⟨x1, x2, x3, x4, x5⟩ (hM H.size v hv) (dk_cwS x5 hy hlk h1 h2 ⟨h3, h4⟩) ⟨dk_In_blind _ _ _ _, fun U hU hW => ⟨rfl, dk_start hx hP hD hS U hU hW⟩⟩ rfl hAs hl.1 hst (lv_room hcat) hdg ⟨h5, h6⟩) hS (fun q _ h => dk_free hx hD hS q h) (dk_free hx hD hS) (fun r u t H1 locs1 ht hvm hw hB hz1 hk1 hS1 => ?_)
  obtain ⟨b1, b2, b3⟩ := hB
  cases hw
  rw [ht] at b1
  exact kk r u hF H1 locs1 ls b1 (b3.weaken (fun k q _ h => dk_free hx hD hS q.1 h)) hS1 hl
end DKC
theorem q_Land : dk_Cl R_Land T_Land 5 0 t_Land := ⟨by decide +kernel, rfl, by decide +kernel, by decide +kernel⟩
theorem q_Diary : dk_Cl R_Diary T_Diary 7 1 t_Diary := ⟨by decide +kernel, rfl, by decide +kernel, by decide +kernel⟩
theorem q_Reader : dk_Cl R_Reader T_Reader 11 2 t_Reader := ⟨by decide +kernel, rfl, by decide +kernel, by decide +kernel⟩
theorem q_Scales : dk_Cl R_Scales T_Scales 3 3 t_Scales := ⟨by decide +kernel, rfl, by decide +kernel, by decide +kernel⟩
theorem q_Scene : dk_Cl R_Scene T_Scene 20 4 t_Scene := ⟨by decide +kernel, rfl, by decide +kernel, by decide +kernel⟩
theorem q_Text : dk_Cl R_Text T_Text 2 5 t_Text := ⟨by decide +kernel, rfl, by decide +kernel, by decide +kernel⟩
theorem q_Sheet : dk_Cl R_Sheet T_Sheet 3 6 t_Sheet := ⟨by decide +kernel, rfl, by decide +kernel, by decide +kernel⟩
theorem q_Image : dk_Cl R_Image T_Image 6 7 t_Image := ⟨by decide +kernel, rfl, by decide +kernel, by decide +kernel⟩
theorem q_Hare : dk_Cl R_Hare T_Hare 10 8 t_Hare := ⟨by decide +kernel, rfl, by decide +kernel, by decide +kernel⟩
theorem q_Model : dk_Cl R_Model T_Model 51 9 t_Model := ⟨by decide +kernel, rfl, by decide +kernel, by decide +kernel⟩
end
section
theorem dk_U_n {S : dk_S} {k j k2 : Nat} {x : Int32} (h : k2 ≠ k) : dk_U S k j x k2 = S k2 := if_neg h
theorem dk_U_s {S : dk_S} {k j : Nat} {x : Int32} : dk_U S k j x k = upd (S k) j x := if_pos rfl
def dk_words (j : Nat) : Int64 := ([512970880104, 112628746448759, 1802071652, 495690081125, 131277443786868, 113741193899620, 1952542053, 7825519, 28530, 6385252, 7237492] : List Int64).getD j 0
/-! the class's world: cell q at ad q; an array's key is its place; numbers have keys from 100 on; text t (t < T) at 43 + 3 t: its codes' keys 1000 + 4 t (+ 2), their lengths' 1001 + 4 t (+ 2) -/
def wC0 (g : dk_G) (ad : Nat → Nat) (T : Nat) (S : dk_S) : va_W := [
  (ad 0, .inr (8, [.ref (ad 1), .ref (ad 5), .ref (ad 12), .ref (ad 15), .ref (ad 18), .ref (ad 30), .ref (ad 31), .ref (ad 32), .int (S 100 0), .int (S 101 0)])),
  (ad 1, .inr (0, [.ref (ad 2), .ref (ad 3), .ref (ad 4), .int (S 102 0), .int (S 103 0)])),
  (ad 2, .inl (g.2.1 0, 8, .inl (S 2))),
  (ad 3, .inl (g.2.1 0, 6, .inl (S 3))),
  (ad 4, .inl (g.2.1 0, 6, .inl (S 4))),
  (ad 5, .inr (1, [.ref (ad 6), .ref (ad 7), .ref (ad 8), .ref (ad 9), .ref (ad 10), .ref (ad 11), .int (S 104 0)])),
  (ad 6, .inl (g.2.1 0, 32, .inl (S 6))),
  (ad 7, .inl (g.2.1 0, 32, .inl (S 7))),
  (ad 8, .inl (g.2.1 0, 32, .inl (S 8))),
  (ad 9, .inl (g.2.1 0, 32, .inl (S 9))),
  (ad 10, .inl (g.2.1 0, 32, .inl (S 10))),
  (ad 11, .inl (g.2.1 0, 32, .inl (S 11))),
  (ad 12, .inr (2, [.ref (ad 13), .int (S 105 0), .int (S 106 0), .ref (ad 14), .int (S 107 0), .int (S 108 0), .int (S 109 0), .int (S 110 0), .int (S 111 0), .int (S 112 0), .int (S 113 0)])),
  (ad 13, .inl (g.2.1 2, 160, .inl (S 13))),
  (ad 14, .inl (g.2.1 0, 160, .inl (S 14))),
  (ad 15, .inr (3, [.ref (ad 16), .ref (ad 17), .ref (ad (43 + 3 * (S 114 0).toNatClampNeg))])),
  (ad 16, .inl (g.2.1 0, 6, .inl (S 16))),
  (ad 17, .inl (g.2.1 0, 160, .inl (S 17))),
  (ad 18, .inr (4, [.ref (ad 1), .ref (ad 5), .ref (ad 15), .ref (ad 19), .ref (ad 20), .ref (ad 21), .ref (ad 22), .ref (ad 23), .ref (ad 24), .ref (ad 25), .ref (ad 26), .int (S 115 0), .int (S 116 0), .ref (ad 27), .ref (ad 28), .ref (ad 29), .int (S 117 0), .int (S 118 0), .int (S 119 0), .int (S 120 0)])),
  (ad 19, .inl (g.2.1 0, 44, .inl (S 19))),
  (ad 20, .inl (g.2.1 0, 44, .inl (S 20))),
  (ad 21, .inl (g.2.1 0, 44, .inl (S 21))),
  (ad 22, .inl (g.2.1 0, 44, .inl (S 22))),
  (ad 23, .inl (g.2.1 0, 44, .inl (S 23))),
  (ad 24, .inl (g.2.1 0, 44, .inl (S 24))),
  (ad 25, .inl (g.2.1 0, 44, .inl (S 25))),
  (ad 26, .inl (g.2.1 1, 44, .inl (S 26))),
  (ad 27, .inl (g.2.1 0, 6, .inl (S 27))),
  (ad 28, .inl (g.2.1 0, 6, .inl (S 28))),
  (ad 29, .inl (g.2.1 1, 6, .inl (S 29))),
  (ad 30, .inl (g.2.1 4, 6, .inr (.inr (.inr (.inr (fun j => if j < T then some (ad (43 + 3 * j)) else none)))))),
  (ad 31, .inl (g.2.1 5, 4, .inr (.inr (.inr (.inr (fun j => if j < 4 then some (ad (35 + 2 * j)) else none)))))),
  (ad 32, .inr (7, [.int (S 121 0), .int (S 122 0), .ref (ad 33), .ref (ad 34), .int (S 123 0), .int (S 124 0)])),
  (ad 33, .inl (g.2.1 0, 8, .inl (S 33))),
  (ad 34, .inl (g.2.1 0, 32, .inl (S 34))),
  (ad 35, .inr (6, [.ref (ad 36), .int (S 160 0), .int (S 170 0)])),
  (ad 36, .inl (g.2.1 0, 40, .inl (S 36))),
  (ad 37, .inr (6, [.ref (ad 38), .int (S 161 0), .int (S 171 0)])),
  (ad 38, .inl (g.2.1 0, 40, .inl (S 38))),
  (ad 39, .inr (6, [.ref (ad 40), .int (S 162 0), .int (S 172 0)])),
  (ad 40, .inl (g.2.1 0, 40, .inl (S 40))),
  (ad 41, .inr (6, [.ref (ad 42), .int (S 163 0), .int (S 173 0)])),
  (ad 42, .inl (g.2.1 0, 40, .inl (S 42)))]
def wCt (g : dk_G) (ad : Nat → Nat) (S : dk_S) (t : Nat) : va_W := [(ad (43 + 3 * t), .inr (5, [.ref (ad (44 + 3 * t + 0)), .ref (ad (44 + 3 * t + 1))])), (ad (44 + 3 * t + 0), .inl (g.2.1 0, (S (1001 + 4 * t + 2 * 0) 0).toNatClampNeg, .inl (S (1000 + 4 * t + 2 * 0)))), (ad (44 + 3 * t + 1), .inl (g.2.1 0, (S (1001 + 4 * t + 2 * 1) 0).toNatClampNeg, .inl (S (1000 + 4 * t + 2 * 1))))]
def wCT (g : dk_G) (ad : Nat → Nat) (S : dk_S) : Nat → va_W
  | 0 => []
  | T + 1 => wCT g ad S T ++ wCt g ad S T
def wC (g : dk_G) (ad : Nat → Nat) (T : Nat) (S : dk_S) : va_W := wC0 g ad T S ++ wCT g ad S T
theorem wCT_len (g : dk_G) (ad : Nat → Nat) (S : dk_S) : ∀ T : Nat, (wCT g ad S T).length = 3 * T
  | 0 => rfl
  | T + 1 => by rw [wCT, List.length_append, wCT_len g ad S T]; show 3 * T + 3 = _; omega
theorem wCT_at {g : dk_G} {ad : Nat → Nat} {S : dk_S} {t i : Nat} (hi : i < 3) : ∀ T : Nat, t < T → (wCT g ad S T)[3 * t + i]? = (wCt g ad S t)[i]?
  | 0, h => absurd h (Nat.not_lt_zero _)
  | T + 1, h => by
    rw [wCT]
    by_cases q : t < T
    · rw [List.getElem?_append_left (by rw [wCT_len]; omega)]; exact wCT_at hi T q
    · have e : t = T := by omega
      subst e
      rw [List.getElem?_append_right (by rw [wCT_len]; omega), wCT_len, Nat.add_sub_cancel_left]
theorem wCt_U {g : dk_G} {ad : Nat → Nat} {S : dk_S} {t k j : Nat} {x : Int32} (h : k < 1000) : wCt g ad (dk_U S k j x) t = wCt g ad S t := by
  have e0 : dk_U S k j x (1001 + 4 * t + 2 * 0) = S (1001 + 4 * t + 2 * 0) := dk_U_n (by omega)
  have e1 : dk_U S k j x (1000 + 4 * t + 2 * 0) = S (1000 + 4 * t + 2 * 0) := dk_U_n (by omega)
  have e2 : dk_U S k j x (1001 + 4 * t + 2 * 1) = S (1001 + 4 * t + 2 * 1) := dk_U_n (by omega)
  have e3 : dk_U S k j x (1000 + 4 * t + 2 * 1) = S (1000 + 4 * t + 2 * 1) := dk_U_n (by omega)
  unfold wCt
  rw [e0, e1, e2, e3]
theorem wCT_U {g : dk_G} {ad : Nat → Nat} {S : dk_S} {k j : Nat} {x : Int32} (h : k < 1000) : ∀ T : Nat, wCT g ad (dk_U S k j x) T = wCT g ad S T
  | 0 => rfl
  | T + 1 => by rw [wCT, wCT, wCT_U h T, wCt_U h]
theorem wC_set {g : dk_G} {ad : Nat → Nat} {T : Nat} {S : dk_S} {k j q : Nat} {x : Int32} {c : Nat × va_E} (hk : k < 1000) (hq : q < 43) (h : (wC0 g ad T S).set q c = wC0 g ad T (dk_U S k j x)) : (wC g ad T S).set q c = wC g ad T (dk_U S k j x) := by
  unfold wC
  rw [List.set_append_left _ _ (show q < (wC0 g ad T S).length from hq), wCT_U hk, h]
section WC
variable (g : dk_G) (ad : Nat → Nat) (T : Nat) (S : dk_S)
theorem oC_Hare : (wC g ad T S)[0]? = some (ad 0, .inr (8, [.ref (ad 1), .ref (ad 5), .ref (ad 12), .ref (ad 15), .ref (ad 18), .ref (ad 30), .ref (ad 31), .ref (ad 32), .int (S 100 0), .int (S 101 0)])) := rfl
theorem sC_Hare_textCount (x : Int32) : (wC g ad T S).set 0 (ad 0, .inr (8, ([.ref (ad 1), .ref (ad 5), .ref (ad 12), .ref (ad 15), .ref (ad 18), .ref (ad 30), .ref (ad 31), .ref (ad 32), .int (S 100 0), .int (S 101 0)] : List Value).set 8 (.int x))) = wC g ad T (dk_U S 100 0 x) := wC_set (by decide) (by decide) rfl
theorem sC_Hare_law (x : Int32) : (wC g ad T S).set 0 (ad 0, .inr (8, ([.ref (ad 1), .ref (ad 5), .ref (ad 12), .ref (ad 15), .ref (ad 18), .ref (ad 30), .ref (ad 31), .ref (ad 32), .int (S 100 0), .int (S 101 0)] : List Value).set 9 (.int x))) = wC g ad T (dk_U S 101 0 x) := wC_set (by decide) (by decide) rfl
theorem oC_Land : (wC g ad T S)[1]? = some (ad 1, .inr (0, [.ref (ad 2), .ref (ad 3), .ref (ad 4), .int (S 102 0), .int (S 103 0)])) := rfl
theorem sC_Land_grounds (x : Int32) : (wC g ad T S).set 1 (ad 1, .inr (0, ([.ref (ad 2), .ref (ad 3), .ref (ad 4), .int (S 102 0), .int (S 103 0)] : List Value).set 3 (.int x))) = wC g ad T (dk_U S 102 0 x) := wC_set (by decide) (by decide) rfl
theorem sC_Land_beasts (x : Int32) : (wC g ad T S).set 1 (ad 1, .inr (0, ([.ref (ad 2), .ref (ad 3), .ref (ad 4), .int (S 102 0), .int (S 103 0)] : List Value).set 4 (.int x))) = wC g ad T (dk_U S 103 0 x) := wC_set (by decide) (by decide) rfl
theorem oC_Diary : (wC g ad T S)[5]? = some (ad 5, .inr (1, [.ref (ad 6), .ref (ad 7), .ref (ad 8), .ref (ad 9), .ref (ad 10), .ref (ad 11), .int (S 104 0)])) := rfl
theorem sC_Diary_size (x : Int32) : (wC g ad T S).set 5 (ad 5, .inr (1, ([.ref (ad 6), .ref (ad 7), .ref (ad 8), .ref (ad 9), .ref (ad 10), .ref (ad 11), .int (S 104 0)] : List Value).set 6 (.int x))) = wC g ad T (dk_U S 104 0 x) := wC_set (by decide) (by decide) rfl
theorem oC_Reader : (wC g ad T S)[12]? = some (ad 12, .inr (2, [.ref (ad 13), .int (S 105 0), .int (S 106 0), .ref (ad 14), .int (S 107 0), .int (S 108 0), .int (S 109 0), .int (S 110 0), .int (S 111 0), .int (S 112 0), .int (S 113 0)])) := rfl
theorem sC_Reader_size (x : Int32) : (wC g ad T S).set 12 (ad 12, .inr (2, ([.ref (ad 13), .int (S 105 0), .int (S 106 0), .ref (ad 14), .int (S 107 0), .int (S 108 0), .int (S 109 0), .int (S 110 0), .int (S 111 0), .int (S 112 0), .int (S 113 0)] : List Value).set 1 (.int x))) = wC g ad T (dk_U S 105 0 x) := wC_set (by decide) (by decide) rfl
theorem sC_Reader_fault (x : Int32) : (wC g ad T S).set 12 (ad 12, .inr (2, ([.ref (ad 13), .int (S 105 0), .int (S 106 0), .ref (ad 14), .int (S 107 0), .int (S 108 0), .int (S 109 0), .int (S 110 0), .int (S 111 0), .int (S 112 0), .int (S 113 0)] : List Value).set 2 (.int x))) = wC g ad T (dk_U S 106 0 x) := wC_set (by decide) (by decide) rfl
theorem sC_Reader_codeSize (x : Int32) : (wC g ad T S).set 12 (ad 12, .inr (2, ([.ref (ad 13), .int (S 105 0), .int (S 106 0), .ref (ad 14), .int (S 107 0), .int (S 108 0), .int (S 109 0), .int (S 110 0), .int (S 111 0), .int (S 112 0), .int (S 113 0)] : List Value).set 4 (.int x))) = wC g ad T (dk_U S 107 0 x) := wC_set (by decide) (by decide) rfl
theorem sC_Reader_worthSize (x : Int32) : (wC g ad T S).set 12 (ad 12, .inr (2, ([.ref (ad 13), .int (S 105 0), .int (S 106 0), .ref (ad 14), .int (S 107 0), .int (S 108 0), .int (S 109 0), .int (S 110 0), .int (S 111 0), .int (S 112 0), .int (S 113 0)] : List Value).set 5 (.int x))) = wC g ad T (dk_U S 108 0 x) := wC_set (by decide) (by decide) rfl
theorem sC_Reader_token (x : Int32) : (wC g ad T S).set 12 (ad 12, .inr (2, ([.ref (ad 13), .int (S 105 0), .int (S 106 0), .ref (ad 14), .int (S 107 0), .int (S 108 0), .int (S 109 0), .int (S 110 0), .int (S 111 0), .int (S 112 0), .int (S 113 0)] : List Value).set 6 (.int x))) = wC g ad T (dk_U S 109 0 x) := wC_set (by decide) (by decide) rfl
theorem sC_Reader_tokenPlace (x : Int32) : (wC g ad T S).set 12 (ad 12, .inr (2, ([.ref (ad 13), .int (S 105 0), .int (S 106 0), .ref (ad 14), .int (S 107 0), .int (S 108 0), .int (S 109 0), .int (S 110 0), .int (S 111 0), .int (S 112 0), .int (S 113 0)] : List Value).set 7 (.int x))) = wC g ad T (dk_U S 110 0 x) := wC_set (by decide) (by decide) rfl
theorem sC_Reader_tokenCode (x : Int32) : (wC g ad T S).set 12 (ad 12, .inr (2, ([.ref (ad 13), .int (S 105 0), .int (S 106 0), .ref (ad 14), .int (S 107 0), .int (S 108 0), .int (S 109 0), .int (S 110 0), .int (S 111 0), .int (S 112 0), .int (S 113 0)] : List Value).set 8 (.int x))) = wC g ad T (dk_U S 111 0 x) := wC_set (by decide) (by decide) rfl
theorem sC_Reader_next (x : Int32) : (wC g ad T S).set 12 (ad 12, .inr (2, ([.ref (ad 13), .int (S 105 0), .int (S 106 0), .ref (ad 14), .int (S 107 0), .int (S 108 0), .int (S 109 0), .int (S 110 0), .int (S 111 0), .int (S 112 0), .int (S 113 0)] : List Value).set 9 (.int x))) = wC g ad T (dk_U S 112 0 x) := wC_set (by decide) (by decide) rfl
theorem sC_Reader_open (x : Int32) : (wC g ad T S).set 12 (ad 12, .inr (2, ([.ref (ad 13), .int (S 105 0), .int (S 106 0), .ref (ad 14), .int (S 107 0), .int (S 108 0), .int (S 109 0), .int (S 110 0), .int (S 111 0), .int (S 112 0), .int (S 113 0)] : List Value).set 10 (.int x))) = wC g ad T (dk_U S 113 0 x) := wC_set (by decide) (by decide) rfl
theorem oC_Scales : (wC g ad T S)[15]? = some (ad 15, .inr (3, [.ref (ad 16), .ref (ad 17), .ref (ad (43 + 3 * (S 114 0).toNatClampNeg))])) := rfl
theorem oC_Scene : (wC g ad T S)[18]? = some (ad 18, .inr (4, [.ref (ad 1), .ref (ad 5), .ref (ad 15), .ref (ad 19), .ref (ad 20), .ref (ad 21), .ref (ad 22), .ref (ad 23), .ref (ad 24), .ref (ad 25), .ref (ad 26), .int (S 115 0), .int (S 116 0), .ref (ad 27), .ref (ad 28), .ref (ad 29), .int (S 117 0), .int (S 118 0), .int (S 119 0), .int (S 120 0)])) := rfl
theorem sC_Scene_size (x : Int32) : (wC g ad T S).set 18 (ad 18, .inr (4, ([.ref (ad 1), .ref (ad 5), .ref (ad 15), .ref (ad 19), .ref (ad 20), .ref (ad 21), .ref (ad 22), .ref (ad 23), .ref (ad 24), .ref (ad 25), .ref (ad 26), .int (S 115 0), .int (S 116 0), .ref (ad 27), .ref (ad 28), .ref (ad 29), .int (S 117 0), .int (S 118 0), .int (S 119 0), .int (S 120 0)] : List Value).set 11 (.int x))) = wC g ad T (dk_U S 115 0 x) := wC_set (by decide) (by decide) rfl
theorem sC_Scene_now (x : Int32) : (wC g ad T S).set 18 (ad 18, .inr (4, ([.ref (ad 1), .ref (ad 5), .ref (ad 15), .ref (ad 19), .ref (ad 20), .ref (ad 21), .ref (ad 22), .ref (ad 23), .ref (ad 24), .ref (ad 25), .ref (ad 26), .int (S 115 0), .int (S 116 0), .ref (ad 27), .ref (ad 28), .ref (ad 29), .int (S 117 0), .int (S 118 0), .int (S 119 0), .int (S 120 0)] : List Value).set 12 (.int x))) = wC g ad T (dk_U S 116 0 x) := wC_set (by decide) (by decide) rfl
theorem sC_Scene_best (x : Int32) : (wC g ad T S).set 18 (ad 18, .inr (4, ([.ref (ad 1), .ref (ad 5), .ref (ad 15), .ref (ad 19), .ref (ad 20), .ref (ad 21), .ref (ad 22), .ref (ad 23), .ref (ad 24), .ref (ad 25), .ref (ad 26), .int (S 115 0), .int (S 116 0), .ref (ad 27), .ref (ad 28), .ref (ad 29), .int (S 117 0), .int (S 118 0), .int (S 119 0), .int (S 120 0)] : List Value).set 16 (.int x))) = wC g ad T (dk_U S 117 0 x) := wC_set (by decide) (by decide) rfl
theorem sC_Scene_disputed (x : Int32) : (wC g ad T S).set 18 (ad 18, .inr (4, ([.ref (ad 1), .ref (ad 5), .ref (ad 15), .ref (ad 19), .ref (ad 20), .ref (ad 21), .ref (ad 22), .ref (ad 23), .ref (ad 24), .ref (ad 25), .ref (ad 26), .int (S 115 0), .int (S 116 0), .ref (ad 27), .ref (ad 28), .ref (ad 29), .int (S 117 0), .int (S 118 0), .int (S 119 0), .int (S 120 0)] : List Value).set 17 (.int x))) = wC g ad T (dk_U S 118 0 x) := wC_set (by decide) (by decide) rfl
theorem sC_Scene_quarrels (x : Int32) : (wC g ad T S).set 18 (ad 18, .inr (4, ([.ref (ad 1), .ref (ad 5), .ref (ad 15), .ref (ad 19), .ref (ad 20), .ref (ad 21), .ref (ad 22), .ref (ad 23), .ref (ad 24), .ref (ad 25), .ref (ad 26), .int (S 115 0), .int (S 116 0), .ref (ad 27), .ref (ad 28), .ref (ad 29), .int (S 117 0), .int (S 118 0), .int (S 119 0), .int (S 120 0)] : List Value).set 18 (.int x))) = wC g ad T (dk_U S 119 0 x) := wC_set (by decide) (by decide) rfl
theorem sC_Scene_unowned (x : Int32) : (wC g ad T S).set 18 (ad 18, .inr (4, ([.ref (ad 1), .ref (ad 5), .ref (ad 15), .ref (ad 19), .ref (ad 20), .ref (ad 21), .ref (ad 22), .ref (ad 23), .ref (ad 24), .ref (ad 25), .ref (ad 26), .int (S 115 0), .int (S 116 0), .ref (ad 27), .ref (ad 28), .ref (ad 29), .int (S 117 0), .int (S 118 0), .int (S 119 0), .int (S 120 0)] : List Value).set 19 (.int x))) = wC g ad T (dk_U S 120 0 x) := wC_set (by decide) (by decide) rfl
theorem oC_Image : (wC g ad T S)[32]? = some (ad 32, .inr (7, [.int (S 121 0), .int (S 122 0), .ref (ad 33), .ref (ad 34), .int (S 123 0), .int (S 124 0)])) := rfl
theorem sC_Image_isKept (x : Int32) : (wC g ad T S).set 32 (ad 32, .inr (7, ([.int (S 121 0), .int (S 122 0), .ref (ad 33), .ref (ad 34), .int (S 123 0), .int (S 124 0)] : List Value).set 0 (.int x))) = wC g ad T (dk_U S 121 0 x) := wC_set (by decide) (by decide) rfl
theorem sC_Image_law (x : Int32) : (wC g ad T S).set 32 (ad 32, .inr (7, ([.int (S 121 0), .int (S 122 0), .ref (ad 33), .ref (ad 34), .int (S 123 0), .int (S 124 0)] : List Value).set 1 (.int x))) = wC g ad T (dk_U S 122 0 x) := wC_set (by decide) (by decide) rfl
theorem sC_Image_grounds (x : Int32) : (wC g ad T S).set 32 (ad 32, .inr (7, ([.int (S 121 0), .int (S 122 0), .ref (ad 33), .ref (ad 34), .int (S 123 0), .int (S 124 0)] : List Value).set 4 (.int x))) = wC g ad T (dk_U S 123 0 x) := wC_set (by decide) (by decide) rfl
theorem sC_Image_moments (x : Int32) : (wC g ad T S).set 32 (ad 32, .inr (7, ([.int (S 121 0), .int (S 122 0), .ref (ad 33), .ref (ad 34), .int (S 123 0), .int (S 124 0)] : List Value).set 5 (.int x))) = wC g ad T (dk_U S 124 0 x) := wC_set (by decide) (by decide) rfl
theorem aC_2 : (wC g ad T S)[2]? = some (ad 2, .inl (g.2.1 0, 8, .inl (S 2))) := rfl
theorem sC_2 (i : Nat) (x : Int32) : (wC g ad T S).set 2 (ad 2, .inl (g.2.1 0, 8, .inl (upd (S 2) i x))) = wC g ad T (dk_U S 2 i x) := wC_set (by decide) (by decide) rfl
theorem aC_3 : (wC g ad T S)[3]? = some (ad 3, .inl (g.2.1 0, 6, .inl (S 3))) := rfl
theorem sC_3 (i : Nat) (x : Int32) : (wC g ad T S).set 3 (ad 3, .inl (g.2.1 0, 6, .inl (upd (S 3) i x))) = wC g ad T (dk_U S 3 i x) := wC_set (by decide) (by decide) rfl
theorem aC_4 : (wC g ad T S)[4]? = some (ad 4, .inl (g.2.1 0, 6, .inl (S 4))) := rfl
theorem sC_4 (i : Nat) (x : Int32) : (wC g ad T S).set 4 (ad 4, .inl (g.2.1 0, 6, .inl (upd (S 4) i x))) = wC g ad T (dk_U S 4 i x) := wC_set (by decide) (by decide) rfl
theorem aC_6 : (wC g ad T S)[6]? = some (ad 6, .inl (g.2.1 0, 32, .inl (S 6))) := rfl
theorem sC_6 (i : Nat) (x : Int32) : (wC g ad T S).set 6 (ad 6, .inl (g.2.1 0, 32, .inl (upd (S 6) i x))) = wC g ad T (dk_U S 6 i x) := wC_set (by decide) (by decide) rfl
theorem aC_7 : (wC g ad T S)[7]? = some (ad 7, .inl (g.2.1 0, 32, .inl (S 7))) := rfl
theorem sC_7 (i : Nat) (x : Int32) : (wC g ad T S).set 7 (ad 7, .inl (g.2.1 0, 32, .inl (upd (S 7) i x))) = wC g ad T (dk_U S 7 i x) := wC_set (by decide) (by decide) rfl
theorem aC_8 : (wC g ad T S)[8]? = some (ad 8, .inl (g.2.1 0, 32, .inl (S 8))) := rfl
theorem sC_8 (i : Nat) (x : Int32) : (wC g ad T S).set 8 (ad 8, .inl (g.2.1 0, 32, .inl (upd (S 8) i x))) = wC g ad T (dk_U S 8 i x) := wC_set (by decide) (by decide) rfl
theorem aC_9 : (wC g ad T S)[9]? = some (ad 9, .inl (g.2.1 0, 32, .inl (S 9))) := rfl
theorem sC_9 (i : Nat) (x : Int32) : (wC g ad T S).set 9 (ad 9, .inl (g.2.1 0, 32, .inl (upd (S 9) i x))) = wC g ad T (dk_U S 9 i x) := wC_set (by decide) (by decide) rfl
theorem aC_10 : (wC g ad T S)[10]? = some (ad 10, .inl (g.2.1 0, 32, .inl (S 10))) := rfl
theorem sC_10 (i : Nat) (x : Int32) : (wC g ad T S).set 10 (ad 10, .inl (g.2.1 0, 32, .inl (upd (S 10) i x))) = wC g ad T (dk_U S 10 i x) := wC_set (by decide) (by decide) rfl
theorem aC_11 : (wC g ad T S)[11]? = some (ad 11, .inl (g.2.1 0, 32, .inl (S 11))) := rfl
theorem sC_11 (i : Nat) (x : Int32) : (wC g ad T S).set 11 (ad 11, .inl (g.2.1 0, 32, .inl (upd (S 11) i x))) = wC g ad T (dk_U S 11 i x) := wC_set (by decide) (by decide) rfl
theorem aC_13 : (wC g ad T S)[13]? = some (ad 13, .inl (g.2.1 2, 160, .inl (S 13))) := rfl
theorem sC_13 (i : Nat) (x : Int32) : (wC g ad T S).set 13 (ad 13, .inl (g.2.1 2, 160, .inl (upd (S 13) i x))) = wC g ad T (dk_U S 13 i x) := wC_set (by decide) (by decide) rfl
theorem aC_14 : (wC g ad T S)[14]? = some (ad 14, .inl (g.2.1 0, 160, .inl (S 14))) := rfl
theorem sC_14 (i : Nat) (x : Int32) : (wC g ad T S).set 14 (ad 14, .inl (g.2.1 0, 160, .inl (upd (S 14) i x))) = wC g ad T (dk_U S 14 i x) := wC_set (by decide) (by decide) rfl
theorem aC_16 : (wC g ad T S)[16]? = some (ad 16, .inl (g.2.1 0, 6, .inl (S 16))) := rfl
theorem sC_16 (i : Nat) (x : Int32) : (wC g ad T S).set 16 (ad 16, .inl (g.2.1 0, 6, .inl (upd (S 16) i x))) = wC g ad T (dk_U S 16 i x) := wC_set (by decide) (by decide) rfl
theorem aC_17 : (wC g ad T S)[17]? = some (ad 17, .inl (g.2.1 0, 160, .inl (S 17))) := rfl
theorem sC_17 (i : Nat) (x : Int32) : (wC g ad T S).set 17 (ad 17, .inl (g.2.1 0, 160, .inl (upd (S 17) i x))) = wC g ad T (dk_U S 17 i x) := wC_set (by decide) (by decide) rfl
theorem aC_19 : (wC g ad T S)[19]? = some (ad 19, .inl (g.2.1 0, 44, .inl (S 19))) := rfl
theorem sC_19 (i : Nat) (x : Int32) : (wC g ad T S).set 19 (ad 19, .inl (g.2.1 0, 44, .inl (upd (S 19) i x))) = wC g ad T (dk_U S 19 i x) := wC_set (by decide) (by decide) rfl
theorem aC_20 : (wC g ad T S)[20]? = some (ad 20, .inl (g.2.1 0, 44, .inl (S 20))) := rfl
theorem sC_20 (i : Nat) (x : Int32) : (wC g ad T S).set 20 (ad 20, .inl (g.2.1 0, 44, .inl (upd (S 20) i x))) = wC g ad T (dk_U S 20 i x) := wC_set (by decide) (by decide) rfl
theorem aC_21 : (wC g ad T S)[21]? = some (ad 21, .inl (g.2.1 0, 44, .inl (S 21))) := rfl
theorem sC_21 (i : Nat) (x : Int32) : (wC g ad T S).set 21 (ad 21, .inl (g.2.1 0, 44, .inl (upd (S 21) i x))) = wC g ad T (dk_U S 21 i x) := wC_set (by decide) (by decide) rfl
theorem aC_22 : (wC g ad T S)[22]? = some (ad 22, .inl (g.2.1 0, 44, .inl (S 22))) := rfl
theorem sC_22 (i : Nat) (x : Int32) : (wC g ad T S).set 22 (ad 22, .inl (g.2.1 0, 44, .inl (upd (S 22) i x))) = wC g ad T (dk_U S 22 i x) := wC_set (by decide) (by decide) rfl
theorem aC_23 : (wC g ad T S)[23]? = some (ad 23, .inl (g.2.1 0, 44, .inl (S 23))) := rfl
theorem sC_23 (i : Nat) (x : Int32) : (wC g ad T S).set 23 (ad 23, .inl (g.2.1 0, 44, .inl (upd (S 23) i x))) = wC g ad T (dk_U S 23 i x) := wC_set (by decide) (by decide) rfl
theorem aC_24 : (wC g ad T S)[24]? = some (ad 24, .inl (g.2.1 0, 44, .inl (S 24))) := rfl
theorem sC_24 (i : Nat) (x : Int32) : (wC g ad T S).set 24 (ad 24, .inl (g.2.1 0, 44, .inl (upd (S 24) i x))) = wC g ad T (dk_U S 24 i x) := wC_set (by decide) (by decide) rfl
theorem aC_25 : (wC g ad T S)[25]? = some (ad 25, .inl (g.2.1 0, 44, .inl (S 25))) := rfl
theorem sC_25 (i : Nat) (x : Int32) : (wC g ad T S).set 25 (ad 25, .inl (g.2.1 0, 44, .inl (upd (S 25) i x))) = wC g ad T (dk_U S 25 i x) := wC_set (by decide) (by decide) rfl
theorem aC_26 : (wC g ad T S)[26]? = some (ad 26, .inl (g.2.1 1, 44, .inl (S 26))) := rfl
theorem sC_26 (i : Nat) (x : Int32) : (wC g ad T S).set 26 (ad 26, .inl (g.2.1 1, 44, .inl (upd (S 26) i x))) = wC g ad T (dk_U S 26 i x) := wC_set (by decide) (by decide) rfl
theorem aC_27 : (wC g ad T S)[27]? = some (ad 27, .inl (g.2.1 0, 6, .inl (S 27))) := rfl
theorem sC_27 (i : Nat) (x : Int32) : (wC g ad T S).set 27 (ad 27, .inl (g.2.1 0, 6, .inl (upd (S 27) i x))) = wC g ad T (dk_U S 27 i x) := wC_set (by decide) (by decide) rfl
theorem aC_28 : (wC g ad T S)[28]? = some (ad 28, .inl (g.2.1 0, 6, .inl (S 28))) := rfl
theorem sC_28 (i : Nat) (x : Int32) : (wC g ad T S).set 28 (ad 28, .inl (g.2.1 0, 6, .inl (upd (S 28) i x))) = wC g ad T (dk_U S 28 i x) := wC_set (by decide) (by decide) rfl
theorem aC_29 : (wC g ad T S)[29]? = some (ad 29, .inl (g.2.1 1, 6, .inl (S 29))) := rfl
theorem sC_29 (i : Nat) (x : Int32) : (wC g ad T S).set 29 (ad 29, .inl (g.2.1 1, 6, .inl (upd (S 29) i x))) = wC g ad T (dk_U S 29 i x) := wC_set (by decide) (by decide) rfl
theorem aC_33 : (wC g ad T S)[33]? = some (ad 33, .inl (g.2.1 0, 8, .inl (S 33))) := rfl
theorem sC_33 (i : Nat) (x : Int32) : (wC g ad T S).set 33 (ad 33, .inl (g.2.1 0, 8, .inl (upd (S 33) i x))) = wC g ad T (dk_U S 33 i x) := wC_set (by decide) (by decide) rfl
theorem aC_34 : (wC g ad T S)[34]? = some (ad 34, .inl (g.2.1 0, 32, .inl (S 34))) := rfl
theorem sC_34 (i : Nat) (x : Int32) : (wC g ad T S).set 34 (ad 34, .inl (g.2.1 0, 32, .inl (upd (S 34) i x))) = wC g ad T (dk_U S 34 i x) := wC_set (by decide) (by decide) rfl
theorem aC_30 : (wC g ad T S)[30]? = some (ad 30, .inl (g.2.1 4, 6, .inr (.inr (.inr (.inr (fun j => if j < T then some (ad (43 + 3 * j)) else none)))))) := rfl
theorem aC_31 : (wC g ad T S)[31]? = some (ad 31, .inl (g.2.1 5, 4, .inr (.inr (.inr (.inr (fun j => if j < 4 then some (ad (35 + 2 * j)) else none)))))) := rfl
theorem oC_Sheet (j : Nat) (hj : j < 4) : (wC g ad T S)[35 + 2 * j]? = some (ad (35 + 2 * j), .inr (6, [.ref (ad (36 + 2 * j)), .int (S (160 + j) 0), .int (S (170 + j) 0)])) := by
  rcases (show j = 0 ∨ j = 1 ∨ j = 2 ∨ j = 3 by omega) with rfl | rfl | rfl | rfl
  all_goals rfl
theorem aC_row (j : Nat) (hj : j < 4) : (wC g ad T S)[36 + 2 * j]? = some (ad (36 + 2 * j), .inl (g.2.1 0, 40, .inl (S (36 + 2 * j)))) := by
  rcases (show j = 0 ∨ j = 1 ∨ j = 2 ∨ j = 3 by omega) with rfl | rfl | rfl | rfl
  all_goals rfl
theorem sC_row (j : Nat) (hj : j < 4) (i : Nat) (x : Int32) : (wC g ad T S).set (36 + 2 * j) (ad (36 + 2 * j), .inl (g.2.1 0, 40, .inl (upd (S (36 + 2 * j)) i x))) = wC g ad T (dk_U S (36 + 2 * j) i x) := by
  rcases (show j = 0 ∨ j = 1 ∨ j = 2 ∨ j = 3 by omega) with rfl | rfl | rfl | rfl
  all_goals exact wC_set (by decide) (by decide) rfl
theorem sC_Sheet_sort (j : Nat) (hj : j < 4) (x : Int32) : (wC g ad T S).set (35 + 2 * j) (ad (35 + 2 * j), .inr (6, ([.ref (ad (36 + 2 * j)), .int (S (160 + j) 0), .int (S (170 + j) 0)] : List Value).set 1 (.int x))) = wC g ad T (dk_U S (160 + j) 0 x) := by
  rcases (show j = 0 ∨ j = 1 ∨ j = 2 ∨ j = 3 by omega) with rfl | rfl | rfl | rfl
  all_goals exact wC_set (by decide) (by decide) rfl
theorem sC_Sheet_size (j : Nat) (hj : j < 4) (x : Int32) : (wC g ad T S).set (35 + 2 * j) (ad (35 + 2 * j), .inr (6, ([.ref (ad (36 + 2 * j)), .int (S (160 + j) 0), .int (S (170 + j) 0)] : List Value).set 2 (.int x))) = wC g ad T (dk_U S (170 + j) 0 x) := by
  rcases (show j = 0 ∨ j = 1 ∨ j = 2 ∨ j = 3 by omega) with rfl | rfl | rfl | rfl
  all_goals exact wC_set (by decide) (by decide) rfl
theorem wC_at {t i : Nat} (hi : i < 3) (ht : t < T) {x : Nat × va_E} (h : (wCt g ad S t)[i]? = some x) : (wC g ad T S)[43 + 3 * t + i]? = some x := by
  unfold wC
  rw [List.getElem?_append_right (show 43 ≤ 43 + 3 * t + i by omega)]
  rw [show 43 + 3 * t + i - (wC0 g ad T S).length = 3 * t + i from by show 43 + 3 * t + i - 43 = 3 * t + i; omega, wCT_at hi T ht]
  exact h
theorem oC_text (t : Nat) (ht : t < T) : (wC g ad T S)[43 + 3 * t + 0]? = some (ad (43 + 3 * t), .inr (5, [.ref (ad (44 + 3 * t + 0)), .ref (ad (44 + 3 * t + 1))])) := wC_at g ad T S (by decide) ht rfl
theorem aC_code (t b : Nat) (ht : t < T) (hb : b < 2) : (wC g ad T S)[43 + 3 * t + (b + 1)]? = some (ad (44 + 3 * t + b), .inl (g.2.1 0, (S (1001 + 4 * t + 2 * b) 0).toNatClampNeg, .inl (S (1000 + 4 * t + 2 * b)))) := by
  rcases (show b = 0 ∨ b = 1 by omega) with rfl | rfl
  · exact wC_at g ad T S (by decide) ht rfl
  · exact wC_at g ad T S (by decide) ht rfl
end WC
def wM (g : dk_G) (am : Nat → Nat) (S : dk_S) : va_W := [
  (am 0, .inr (9, [.int (S 0 0), .ref (am 1), .int (S 2 0), .ref (am 2), .ref (am 3), .int (S 5 0), .ref (am 4), .ref (am 5), .ref (am 6), .ref (am 7), .ref (am 8), .ref (am 9), .ref (am 10), .int (S 13 0), .ref (am 11), .ref (am 12), .int (S 16 0), .int (S 17 0), .int (S 18 0), .ref (am 13), .ref (am 14), .ref (am 15), .ref (am 16), .ref (am 17), .ref (am 18), .ref (am 19), .ref (am 20), .ref (am 21), .ref (am 22), .ref (am 23), .int (S 30 0), .int (S 31 0), .int (S 32 0), .int (S 33 0), .int (S 34 0), .ref (am 24), .ref (am 25), .ref (am 26), .ref (am 27), .ref (am 28), .int (S 40 0), .int (S 41 0), .int (S 42 0), .int (S 43 0), .ref (am 29), .ref (am 30), .int (S 46 0), .int (S 47 0), .int (S 48 0), .ref (am 31), .ref (am 32)])),
  (am 1, .inl (g.2.1 0, 8, .inl (S 1))),
  (am 2, .inl (g.2.1 0, 6, .inl (S 3))),
  (am 3, .inl (g.2.1 0, 6, .inl (S 4))),
  (am 4, .inl (g.2.1 0, 32, .inl (S 6))),
  (am 5, .inl (g.2.1 0, 32, .inl (S 7))),
  (am 6, .inl (g.2.1 0, 32, .inl (S 8))),
  (am 7, .inl (g.2.1 0, 32, .inl (S 9))),
  (am 8, .inl (g.2.1 0, 32, .inl (S 10))),
  (am 9, .inl (g.2.1 0, 32, .inl (S 11))),
  (am 10, .inl (g.2.1 0, 160, .inl (S 12))),
  (am 11, .inl (g.2.1 0, 1200, .inl (S 14))),
  (am 12, .inl (g.2.1 0, 24, .inl (S 15))),
  (am 13, .inl (g.2.1 0, 44, .inl (S 19))),
  (am 14, .inl (g.2.1 0, 44, .inl (S 20))),
  (am 15, .inl (g.2.1 0, 44, .inl (S 21))),
  (am 16, .inl (g.2.1 0, 44, .inl (S 22))),
  (am 17, .inl (g.2.1 0, 44, .inl (S 23))),
  (am 18, .inl (g.2.1 0, 44, .inl (S 24))),
  (am 19, .inl (g.2.1 0, 44, .inl (S 25))),
  (am 20, .inl (g.2.1 1, 44, .inl (S 26))),
  (am 21, .inl (g.2.1 0, 6, .inl (S 27))),
  (am 22, .inl (g.2.1 0, 6, .inl (S 28))),
  (am 23, .inl (g.2.1 1, 6, .inl (S 29))),
  (am 24, .inl (g.2.1 0, 8, .inl (S 35))),
  (am 25, .inl (g.2.1 0, 32, .inl (S 36))),
  (am 26, .inl (g.2.1 0, 4, .inl (S 37))),
  (am 27, .inl (g.2.1 0, 4, .inl (S 38))),
  (am 28, .inl (g.2.1 0, 160, .inl (S 39))),
  (am 29, .inl (g.2.1 3, 11, .inr (.inl dk_words))),
  (am 30, .inl (g.2.1 0, 200, .inl (S 45))),
  (am 31, .inl (g.2.1 0, 200, .inl (S 49))),
  (am 32, .inl (g.2.1 0, 6, .inl (S 50)))]
section WM
variable (g : dk_G) (am : Nat → Nat) (S : dk_S)
theorem oM_Model : (wM g am S)[0]? = some (am 0, .inr (9, [.int (S 0 0), .ref (am 1), .int (S 2 0), .ref (am 2), .ref (am 3), .int (S 5 0), .ref (am 4), .ref (am 5), .ref (am 6), .ref (am 7), .ref (am 8), .ref (am 9), .ref (am 10), .int (S 13 0), .ref (am 11), .ref (am 12), .int (S 16 0), .int (S 17 0), .int (S 18 0), .ref (am 13), .ref (am 14), .ref (am 15), .ref (am 16), .ref (am 17), .ref (am 18), .ref (am 19), .ref (am 20), .ref (am 21), .ref (am 22), .ref (am 23), .int (S 30 0), .int (S 31 0), .int (S 32 0), .int (S 33 0), .int (S 34 0), .ref (am 24), .ref (am 25), .ref (am 26), .ref (am 27), .ref (am 28), .int (S 40 0), .int (S 41 0), .int (S 42 0), .int (S 43 0), .ref (am 29), .ref (am 30), .int (S 46 0), .int (S 47 0), .int (S 48 0), .ref (am 31), .ref (am 32)])) := rfl
theorem sM_Model_grounds (x : Int32) : (wM g am S).set 0 (am 0, .inr (9, ([.int (S 0 0), .ref (am 1), .int (S 2 0), .ref (am 2), .ref (am 3), .int (S 5 0), .ref (am 4), .ref (am 5), .ref (am 6), .ref (am 7), .ref (am 8), .ref (am 9), .ref (am 10), .int (S 13 0), .ref (am 11), .ref (am 12), .int (S 16 0), .int (S 17 0), .int (S 18 0), .ref (am 13), .ref (am 14), .ref (am 15), .ref (am 16), .ref (am 17), .ref (am 18), .ref (am 19), .ref (am 20), .ref (am 21), .ref (am 22), .ref (am 23), .int (S 30 0), .int (S 31 0), .int (S 32 0), .int (S 33 0), .int (S 34 0), .ref (am 24), .ref (am 25), .ref (am 26), .ref (am 27), .ref (am 28), .int (S 40 0), .int (S 41 0), .int (S 42 0), .int (S 43 0), .ref (am 29), .ref (am 30), .int (S 46 0), .int (S 47 0), .int (S 48 0), .ref (am 31), .ref (am 32)] : List Value).set 0 (.int x))) = wM g am (dk_U S 0 0 x) := rfl
theorem sM_Model_beasts (x : Int32) : (wM g am S).set 0 (am 0, .inr (9, ([.int (S 0 0), .ref (am 1), .int (S 2 0), .ref (am 2), .ref (am 3), .int (S 5 0), .ref (am 4), .ref (am 5), .ref (am 6), .ref (am 7), .ref (am 8), .ref (am 9), .ref (am 10), .int (S 13 0), .ref (am 11), .ref (am 12), .int (S 16 0), .int (S 17 0), .int (S 18 0), .ref (am 13), .ref (am 14), .ref (am 15), .ref (am 16), .ref (am 17), .ref (am 18), .ref (am 19), .ref (am 20), .ref (am 21), .ref (am 22), .ref (am 23), .int (S 30 0), .int (S 31 0), .int (S 32 0), .int (S 33 0), .int (S 34 0), .ref (am 24), .ref (am 25), .ref (am 26), .ref (am 27), .ref (am 28), .int (S 40 0), .int (S 41 0), .int (S 42 0), .int (S 43 0), .ref (am 29), .ref (am 30), .int (S 46 0), .int (S 47 0), .int (S 48 0), .ref (am 31), .ref (am 32)] : List Value).set 2 (.int x))) = wM g am (dk_U S 2 0 x) := rfl
theorem sM_Model_moments (x : Int32) : (wM g am S).set 0 (am 0, .inr (9, ([.int (S 0 0), .ref (am 1), .int (S 2 0), .ref (am 2), .ref (am 3), .int (S 5 0), .ref (am 4), .ref (am 5), .ref (am 6), .ref (am 7), .ref (am 8), .ref (am 9), .ref (am 10), .int (S 13 0), .ref (am 11), .ref (am 12), .int (S 16 0), .int (S 17 0), .int (S 18 0), .ref (am 13), .ref (am 14), .ref (am 15), .ref (am 16), .ref (am 17), .ref (am 18), .ref (am 19), .ref (am 20), .ref (am 21), .ref (am 22), .ref (am 23), .int (S 30 0), .int (S 31 0), .int (S 32 0), .int (S 33 0), .int (S 34 0), .ref (am 24), .ref (am 25), .ref (am 26), .ref (am 27), .ref (am 28), .int (S 40 0), .int (S 41 0), .int (S 42 0), .int (S 43 0), .ref (am 29), .ref (am 30), .int (S 46 0), .int (S 47 0), .int (S 48 0), .ref (am 31), .ref (am 32)] : List Value).set 5 (.int x))) = wM g am (dk_U S 5 0 x) := rfl
theorem sM_Model_taped (x : Int32) : (wM g am S).set 0 (am 0, .inr (9, ([.int (S 0 0), .ref (am 1), .int (S 2 0), .ref (am 2), .ref (am 3), .int (S 5 0), .ref (am 4), .ref (am 5), .ref (am 6), .ref (am 7), .ref (am 8), .ref (am 9), .ref (am 10), .int (S 13 0), .ref (am 11), .ref (am 12), .int (S 16 0), .int (S 17 0), .int (S 18 0), .ref (am 13), .ref (am 14), .ref (am 15), .ref (am 16), .ref (am 17), .ref (am 18), .ref (am 19), .ref (am 20), .ref (am 21), .ref (am 22), .ref (am 23), .int (S 30 0), .int (S 31 0), .int (S 32 0), .int (S 33 0), .int (S 34 0), .ref (am 24), .ref (am 25), .ref (am 26), .ref (am 27), .ref (am 28), .int (S 40 0), .int (S 41 0), .int (S 42 0), .int (S 43 0), .ref (am 29), .ref (am 30), .int (S 46 0), .int (S 47 0), .int (S 48 0), .ref (am 31), .ref (am 32)] : List Value).set 13 (.int x))) = wM g am (dk_U S 13 0 x) := rfl
theorem sM_Model_texts (x : Int32) : (wM g am S).set 0 (am 0, .inr (9, ([.int (S 0 0), .ref (am 1), .int (S 2 0), .ref (am 2), .ref (am 3), .int (S 5 0), .ref (am 4), .ref (am 5), .ref (am 6), .ref (am 7), .ref (am 8), .ref (am 9), .ref (am 10), .int (S 13 0), .ref (am 11), .ref (am 12), .int (S 16 0), .int (S 17 0), .int (S 18 0), .ref (am 13), .ref (am 14), .ref (am 15), .ref (am 16), .ref (am 17), .ref (am 18), .ref (am 19), .ref (am 20), .ref (am 21), .ref (am 22), .ref (am 23), .int (S 30 0), .int (S 31 0), .int (S 32 0), .int (S 33 0), .int (S 34 0), .ref (am 24), .ref (am 25), .ref (am 26), .ref (am 27), .ref (am 28), .int (S 40 0), .int (S 41 0), .int (S 42 0), .int (S 43 0), .ref (am 29), .ref (am 30), .int (S 46 0), .int (S 47 0), .int (S 48 0), .ref (am 31), .ref (am 32)] : List Value).set 16 (.int x))) = wM g am (dk_U S 16 0 x) := rfl
theorem sM_Model_rule (x : Int32) : (wM g am S).set 0 (am 0, .inr (9, ([.int (S 0 0), .ref (am 1), .int (S 2 0), .ref (am 2), .ref (am 3), .int (S 5 0), .ref (am 4), .ref (am 5), .ref (am 6), .ref (am 7), .ref (am 8), .ref (am 9), .ref (am 10), .int (S 13 0), .ref (am 11), .ref (am 12), .int (S 16 0), .int (S 17 0), .int (S 18 0), .ref (am 13), .ref (am 14), .ref (am 15), .ref (am 16), .ref (am 17), .ref (am 18), .ref (am 19), .ref (am 20), .ref (am 21), .ref (am 22), .ref (am 23), .int (S 30 0), .int (S 31 0), .int (S 32 0), .int (S 33 0), .int (S 34 0), .ref (am 24), .ref (am 25), .ref (am 26), .ref (am 27), .ref (am 28), .int (S 40 0), .int (S 41 0), .int (S 42 0), .int (S 43 0), .ref (am 29), .ref (am 30), .int (S 46 0), .int (S 47 0), .int (S 48 0), .ref (am 31), .ref (am 32)] : List Value).set 17 (.int x))) = wM g am (dk_U S 17 0 x) := rfl
theorem sM_Model_claims (x : Int32) : (wM g am S).set 0 (am 0, .inr (9, ([.int (S 0 0), .ref (am 1), .int (S 2 0), .ref (am 2), .ref (am 3), .int (S 5 0), .ref (am 4), .ref (am 5), .ref (am 6), .ref (am 7), .ref (am 8), .ref (am 9), .ref (am 10), .int (S 13 0), .ref (am 11), .ref (am 12), .int (S 16 0), .int (S 17 0), .int (S 18 0), .ref (am 13), .ref (am 14), .ref (am 15), .ref (am 16), .ref (am 17), .ref (am 18), .ref (am 19), .ref (am 20), .ref (am 21), .ref (am 22), .ref (am 23), .int (S 30 0), .int (S 31 0), .int (S 32 0), .int (S 33 0), .int (S 34 0), .ref (am 24), .ref (am 25), .ref (am 26), .ref (am 27), .ref (am 28), .int (S 40 0), .int (S 41 0), .int (S 42 0), .int (S 43 0), .ref (am 29), .ref (am 30), .int (S 46 0), .int (S 47 0), .int (S 48 0), .ref (am 31), .ref (am 32)] : List Value).set 18 (.int x))) = wM g am (dk_U S 18 0 x) := rfl
theorem sM_Model_now (x : Int32) : (wM g am S).set 0 (am 0, .inr (9, ([.int (S 0 0), .ref (am 1), .int (S 2 0), .ref (am 2), .ref (am 3), .int (S 5 0), .ref (am 4), .ref (am 5), .ref (am 6), .ref (am 7), .ref (am 8), .ref (am 9), .ref (am 10), .int (S 13 0), .ref (am 11), .ref (am 12), .int (S 16 0), .int (S 17 0), .int (S 18 0), .ref (am 13), .ref (am 14), .ref (am 15), .ref (am 16), .ref (am 17), .ref (am 18), .ref (am 19), .ref (am 20), .ref (am 21), .ref (am 22), .ref (am 23), .int (S 30 0), .int (S 31 0), .int (S 32 0), .int (S 33 0), .int (S 34 0), .ref (am 24), .ref (am 25), .ref (am 26), .ref (am 27), .ref (am 28), .int (S 40 0), .int (S 41 0), .int (S 42 0), .int (S 43 0), .ref (am 29), .ref (am 30), .int (S 46 0), .int (S 47 0), .int (S 48 0), .ref (am 31), .ref (am 32)] : List Value).set 30 (.int x))) = wM g am (dk_U S 30 0 x) := rfl
theorem sM_Model_hasImage (x : Int32) : (wM g am S).set 0 (am 0, .inr (9, ([.int (S 0 0), .ref (am 1), .int (S 2 0), .ref (am 2), .ref (am 3), .int (S 5 0), .ref (am 4), .ref (am 5), .ref (am 6), .ref (am 7), .ref (am 8), .ref (am 9), .ref (am 10), .int (S 13 0), .ref (am 11), .ref (am 12), .int (S 16 0), .int (S 17 0), .int (S 18 0), .ref (am 13), .ref (am 14), .ref (am 15), .ref (am 16), .ref (am 17), .ref (am 18), .ref (am 19), .ref (am 20), .ref (am 21), .ref (am 22), .ref (am 23), .int (S 30 0), .int (S 31 0), .int (S 32 0), .int (S 33 0), .int (S 34 0), .ref (am 24), .ref (am 25), .ref (am 26), .ref (am 27), .ref (am 28), .int (S 40 0), .int (S 41 0), .int (S 42 0), .int (S 43 0), .ref (am 29), .ref (am 30), .int (S 46 0), .int (S 47 0), .int (S 48 0), .ref (am 31), .ref (am 32)] : List Value).set 31 (.int x))) = wM g am (dk_U S 31 0 x) := rfl
theorem sM_Model_imageGrounds (x : Int32) : (wM g am S).set 0 (am 0, .inr (9, ([.int (S 0 0), .ref (am 1), .int (S 2 0), .ref (am 2), .ref (am 3), .int (S 5 0), .ref (am 4), .ref (am 5), .ref (am 6), .ref (am 7), .ref (am 8), .ref (am 9), .ref (am 10), .int (S 13 0), .ref (am 11), .ref (am 12), .int (S 16 0), .int (S 17 0), .int (S 18 0), .ref (am 13), .ref (am 14), .ref (am 15), .ref (am 16), .ref (am 17), .ref (am 18), .ref (am 19), .ref (am 20), .ref (am 21), .ref (am 22), .ref (am 23), .int (S 30 0), .int (S 31 0), .int (S 32 0), .int (S 33 0), .int (S 34 0), .ref (am 24), .ref (am 25), .ref (am 26), .ref (am 27), .ref (am 28), .int (S 40 0), .int (S 41 0), .int (S 42 0), .int (S 43 0), .ref (am 29), .ref (am 30), .int (S 46 0), .int (S 47 0), .int (S 48 0), .ref (am 31), .ref (am 32)] : List Value).set 32 (.int x))) = wM g am (dk_U S 32 0 x) := rfl
theorem sM_Model_imageMoments (x : Int32) : (wM g am S).set 0 (am 0, .inr (9, ([.int (S 0 0), .ref (am 1), .int (S 2 0), .ref (am 2), .ref (am 3), .int (S 5 0), .ref (am 4), .ref (am 5), .ref (am 6), .ref (am 7), .ref (am 8), .ref (am 9), .ref (am 10), .int (S 13 0), .ref (am 11), .ref (am 12), .int (S 16 0), .int (S 17 0), .int (S 18 0), .ref (am 13), .ref (am 14), .ref (am 15), .ref (am 16), .ref (am 17), .ref (am 18), .ref (am 19), .ref (am 20), .ref (am 21), .ref (am 22), .ref (am 23), .int (S 30 0), .int (S 31 0), .int (S 32 0), .int (S 33 0), .int (S 34 0), .ref (am 24), .ref (am 25), .ref (am 26), .ref (am 27), .ref (am 28), .int (S 40 0), .int (S 41 0), .int (S 42 0), .int (S 43 0), .ref (am 29), .ref (am 30), .int (S 46 0), .int (S 47 0), .int (S 48 0), .ref (am 31), .ref (am 32)] : List Value).set 33 (.int x))) = wM g am (dk_U S 33 0 x) := rfl
theorem sM_Model_imageRule (x : Int32) : (wM g am S).set 0 (am 0, .inr (9, ([.int (S 0 0), .ref (am 1), .int (S 2 0), .ref (am 2), .ref (am 3), .int (S 5 0), .ref (am 4), .ref (am 5), .ref (am 6), .ref (am 7), .ref (am 8), .ref (am 9), .ref (am 10), .int (S 13 0), .ref (am 11), .ref (am 12), .int (S 16 0), .int (S 17 0), .int (S 18 0), .ref (am 13), .ref (am 14), .ref (am 15), .ref (am 16), .ref (am 17), .ref (am 18), .ref (am 19), .ref (am 20), .ref (am 21), .ref (am 22), .ref (am 23), .int (S 30 0), .int (S 31 0), .int (S 32 0), .int (S 33 0), .int (S 34 0), .ref (am 24), .ref (am 25), .ref (am 26), .ref (am 27), .ref (am 28), .int (S 40 0), .int (S 41 0), .int (S 42 0), .int (S 43 0), .ref (am 29), .ref (am 30), .int (S 46 0), .int (S 47 0), .int (S 48 0), .ref (am 31), .ref (am 32)] : List Value).set 34 (.int x))) = wM g am (dk_U S 34 0 x) := rfl
theorem sM_Model_at (x : Int32) : (wM g am S).set 0 (am 0, .inr (9, ([.int (S 0 0), .ref (am 1), .int (S 2 0), .ref (am 2), .ref (am 3), .int (S 5 0), .ref (am 4), .ref (am 5), .ref (am 6), .ref (am 7), .ref (am 8), .ref (am 9), .ref (am 10), .int (S 13 0), .ref (am 11), .ref (am 12), .int (S 16 0), .int (S 17 0), .int (S 18 0), .ref (am 13), .ref (am 14), .ref (am 15), .ref (am 16), .ref (am 17), .ref (am 18), .ref (am 19), .ref (am 20), .ref (am 21), .ref (am 22), .ref (am 23), .int (S 30 0), .int (S 31 0), .int (S 32 0), .int (S 33 0), .int (S 34 0), .ref (am 24), .ref (am 25), .ref (am 26), .ref (am 27), .ref (am 28), .int (S 40 0), .int (S 41 0), .int (S 42 0), .int (S 43 0), .ref (am 29), .ref (am 30), .int (S 46 0), .int (S 47 0), .int (S 48 0), .ref (am 31), .ref (am 32)] : List Value).set 40 (.int x))) = wM g am (dk_U S 40 0 x) := rfl
theorem sM_Model_begun (x : Int32) : (wM g am S).set 0 (am 0, .inr (9, ([.int (S 0 0), .ref (am 1), .int (S 2 0), .ref (am 2), .ref (am 3), .int (S 5 0), .ref (am 4), .ref (am 5), .ref (am 6), .ref (am 7), .ref (am 8), .ref (am 9), .ref (am 10), .int (S 13 0), .ref (am 11), .ref (am 12), .int (S 16 0), .int (S 17 0), .int (S 18 0), .ref (am 13), .ref (am 14), .ref (am 15), .ref (am 16), .ref (am 17), .ref (am 18), .ref (am 19), .ref (am 20), .ref (am 21), .ref (am 22), .ref (am 23), .int (S 30 0), .int (S 31 0), .int (S 32 0), .int (S 33 0), .int (S 34 0), .ref (am 24), .ref (am 25), .ref (am 26), .ref (am 27), .ref (am 28), .int (S 40 0), .int (S 41 0), .int (S 42 0), .int (S 43 0), .ref (am 29), .ref (am 30), .int (S 46 0), .int (S 47 0), .int (S 48 0), .ref (am 31), .ref (am 32)] : List Value).set 41 (.int x))) = wM g am (dk_U S 41 0 x) := rfl
theorem sM_Model_token (x : Int32) : (wM g am S).set 0 (am 0, .inr (9, ([.int (S 0 0), .ref (am 1), .int (S 2 0), .ref (am 2), .ref (am 3), .int (S 5 0), .ref (am 4), .ref (am 5), .ref (am 6), .ref (am 7), .ref (am 8), .ref (am 9), .ref (am 10), .int (S 13 0), .ref (am 11), .ref (am 12), .int (S 16 0), .int (S 17 0), .int (S 18 0), .ref (am 13), .ref (am 14), .ref (am 15), .ref (am 16), .ref (am 17), .ref (am 18), .ref (am 19), .ref (am 20), .ref (am 21), .ref (am 22), .ref (am 23), .int (S 30 0), .int (S 31 0), .int (S 32 0), .int (S 33 0), .int (S 34 0), .ref (am 24), .ref (am 25), .ref (am 26), .ref (am 27), .ref (am 28), .int (S 40 0), .int (S 41 0), .int (S 42 0), .int (S 43 0), .ref (am 29), .ref (am 30), .int (S 46 0), .int (S 47 0), .int (S 48 0), .ref (am 31), .ref (am 32)] : List Value).set 42 (.int x))) = wM g am (dk_U S 42 0 x) := rfl
theorem sM_Model_value (x : Int32) : (wM g am S).set 0 (am 0, .inr (9, ([.int (S 0 0), .ref (am 1), .int (S 2 0), .ref (am 2), .ref (am 3), .int (S 5 0), .ref (am 4), .ref (am 5), .ref (am 6), .ref (am 7), .ref (am 8), .ref (am 9), .ref (am 10), .int (S 13 0), .ref (am 11), .ref (am 12), .int (S 16 0), .int (S 17 0), .int (S 18 0), .ref (am 13), .ref (am 14), .ref (am 15), .ref (am 16), .ref (am 17), .ref (am 18), .ref (am 19), .ref (am 20), .ref (am 21), .ref (am 22), .ref (am 23), .int (S 30 0), .int (S 31 0), .int (S 32 0), .int (S 33 0), .int (S 34 0), .ref (am 24), .ref (am 25), .ref (am 26), .ref (am 27), .ref (am 28), .int (S 40 0), .int (S 41 0), .int (S 42 0), .int (S 43 0), .ref (am 29), .ref (am 30), .int (S 46 0), .int (S 47 0), .int (S 48 0), .ref (am 31), .ref (am 32)] : List Value).set 43 (.int x))) = wM g am (dk_U S 43 0 x) := rfl
theorem sM_Model_heldMany (x : Int32) : (wM g am S).set 0 (am 0, .inr (9, ([.int (S 0 0), .ref (am 1), .int (S 2 0), .ref (am 2), .ref (am 3), .int (S 5 0), .ref (am 4), .ref (am 5), .ref (am 6), .ref (am 7), .ref (am 8), .ref (am 9), .ref (am 10), .int (S 13 0), .ref (am 11), .ref (am 12), .int (S 16 0), .int (S 17 0), .int (S 18 0), .ref (am 13), .ref (am 14), .ref (am 15), .ref (am 16), .ref (am 17), .ref (am 18), .ref (am 19), .ref (am 20), .ref (am 21), .ref (am 22), .ref (am 23), .int (S 30 0), .int (S 31 0), .int (S 32 0), .int (S 33 0), .int (S 34 0), .ref (am 24), .ref (am 25), .ref (am 26), .ref (am 27), .ref (am 28), .int (S 40 0), .int (S 41 0), .int (S 42 0), .int (S 43 0), .ref (am 29), .ref (am 30), .int (S 46 0), .int (S 47 0), .int (S 48 0), .ref (am 31), .ref (am 32)] : List Value).set 46 (.int x))) = wM g am (dk_U S 46 0 x) := rfl
theorem sM_Model_opens (x : Int32) : (wM g am S).set 0 (am 0, .inr (9, ([.int (S 0 0), .ref (am 1), .int (S 2 0), .ref (am 2), .ref (am 3), .int (S 5 0), .ref (am 4), .ref (am 5), .ref (am 6), .ref (am 7), .ref (am 8), .ref (am 9), .ref (am 10), .int (S 13 0), .ref (am 11), .ref (am 12), .int (S 16 0), .int (S 17 0), .int (S 18 0), .ref (am 13), .ref (am 14), .ref (am 15), .ref (am 16), .ref (am 17), .ref (am 18), .ref (am 19), .ref (am 20), .ref (am 21), .ref (am 22), .ref (am 23), .int (S 30 0), .int (S 31 0), .int (S 32 0), .int (S 33 0), .int (S 34 0), .ref (am 24), .ref (am 25), .ref (am 26), .ref (am 27), .ref (am 28), .int (S 40 0), .int (S 41 0), .int (S 42 0), .int (S 43 0), .ref (am 29), .ref (am 30), .int (S 46 0), .int (S 47 0), .int (S 48 0), .ref (am 31), .ref (am 32)] : List Value).set 47 (.int x))) = wM g am (dk_U S 47 0 x) := rfl
theorem sM_Model_out (x : Int32) : (wM g am S).set 0 (am 0, .inr (9, ([.int (S 0 0), .ref (am 1), .int (S 2 0), .ref (am 2), .ref (am 3), .int (S 5 0), .ref (am 4), .ref (am 5), .ref (am 6), .ref (am 7), .ref (am 8), .ref (am 9), .ref (am 10), .int (S 13 0), .ref (am 11), .ref (am 12), .int (S 16 0), .int (S 17 0), .int (S 18 0), .ref (am 13), .ref (am 14), .ref (am 15), .ref (am 16), .ref (am 17), .ref (am 18), .ref (am 19), .ref (am 20), .ref (am 21), .ref (am 22), .ref (am 23), .int (S 30 0), .int (S 31 0), .int (S 32 0), .int (S 33 0), .int (S 34 0), .ref (am 24), .ref (am 25), .ref (am 26), .ref (am 27), .ref (am 28), .int (S 40 0), .int (S 41 0), .int (S 42 0), .int (S 43 0), .ref (am 29), .ref (am 30), .int (S 46 0), .int (S 47 0), .int (S 48 0), .ref (am 31), .ref (am 32)] : List Value).set 48 (.int x))) = wM g am (dk_U S 48 0 x) := rfl
theorem aM_1 : (wM g am S)[1]? = some (am 1, .inl (g.2.1 0, 8, .inl (S 1))) := rfl
theorem sM_1 (i : Nat) (x : Int32) : (wM g am S).set 1 (am 1, .inl (g.2.1 0, 8, .inl (upd (S 1) i x))) = wM g am (dk_U S 1 i x) := rfl
theorem aM_2 : (wM g am S)[2]? = some (am 2, .inl (g.2.1 0, 6, .inl (S 3))) := rfl
theorem sM_2 (i : Nat) (x : Int32) : (wM g am S).set 2 (am 2, .inl (g.2.1 0, 6, .inl (upd (S 3) i x))) = wM g am (dk_U S 3 i x) := rfl
theorem aM_3 : (wM g am S)[3]? = some (am 3, .inl (g.2.1 0, 6, .inl (S 4))) := rfl
theorem sM_3 (i : Nat) (x : Int32) : (wM g am S).set 3 (am 3, .inl (g.2.1 0, 6, .inl (upd (S 4) i x))) = wM g am (dk_U S 4 i x) := rfl
theorem aM_4 : (wM g am S)[4]? = some (am 4, .inl (g.2.1 0, 32, .inl (S 6))) := rfl
theorem sM_4 (i : Nat) (x : Int32) : (wM g am S).set 4 (am 4, .inl (g.2.1 0, 32, .inl (upd (S 6) i x))) = wM g am (dk_U S 6 i x) := rfl
theorem aM_5 : (wM g am S)[5]? = some (am 5, .inl (g.2.1 0, 32, .inl (S 7))) := rfl
theorem sM_5 (i : Nat) (x : Int32) : (wM g am S).set 5 (am 5, .inl (g.2.1 0, 32, .inl (upd (S 7) i x))) = wM g am (dk_U S 7 i x) := rfl
theorem aM_6 : (wM g am S)[6]? = some (am 6, .inl (g.2.1 0, 32, .inl (S 8))) := rfl
theorem sM_6 (i : Nat) (x : Int32) : (wM g am S).set 6 (am 6, .inl (g.2.1 0, 32, .inl (upd (S 8) i x))) = wM g am (dk_U S 8 i x) := rfl
theorem aM_7 : (wM g am S)[7]? = some (am 7, .inl (g.2.1 0, 32, .inl (S 9))) := rfl
theorem sM_7 (i : Nat) (x : Int32) : (wM g am S).set 7 (am 7, .inl (g.2.1 0, 32, .inl (upd (S 9) i x))) = wM g am (dk_U S 9 i x) := rfl
theorem aM_8 : (wM g am S)[8]? = some (am 8, .inl (g.2.1 0, 32, .inl (S 10))) := rfl
theorem sM_8 (i : Nat) (x : Int32) : (wM g am S).set 8 (am 8, .inl (g.2.1 0, 32, .inl (upd (S 10) i x))) = wM g am (dk_U S 10 i x) := rfl
theorem aM_9 : (wM g am S)[9]? = some (am 9, .inl (g.2.1 0, 32, .inl (S 11))) := rfl
theorem sM_9 (i : Nat) (x : Int32) : (wM g am S).set 9 (am 9, .inl (g.2.1 0, 32, .inl (upd (S 11) i x))) = wM g am (dk_U S 11 i x) := rfl
theorem aM_10 : (wM g am S)[10]? = some (am 10, .inl (g.2.1 0, 160, .inl (S 12))) := rfl
theorem sM_10 (i : Nat) (x : Int32) : (wM g am S).set 10 (am 10, .inl (g.2.1 0, 160, .inl (upd (S 12) i x))) = wM g am (dk_U S 12 i x) := rfl
theorem aM_11 : (wM g am S)[11]? = some (am 11, .inl (g.2.1 0, 1200, .inl (S 14))) := rfl
theorem sM_11 (i : Nat) (x : Int32) : (wM g am S).set 11 (am 11, .inl (g.2.1 0, 1200, .inl (upd (S 14) i x))) = wM g am (dk_U S 14 i x) := rfl
theorem aM_12 : (wM g am S)[12]? = some (am 12, .inl (g.2.1 0, 24, .inl (S 15))) := rfl
theorem sM_12 (i : Nat) (x : Int32) : (wM g am S).set 12 (am 12, .inl (g.2.1 0, 24, .inl (upd (S 15) i x))) = wM g am (dk_U S 15 i x) := rfl
theorem aM_13 : (wM g am S)[13]? = some (am 13, .inl (g.2.1 0, 44, .inl (S 19))) := rfl
theorem sM_13 (i : Nat) (x : Int32) : (wM g am S).set 13 (am 13, .inl (g.2.1 0, 44, .inl (upd (S 19) i x))) = wM g am (dk_U S 19 i x) := rfl
theorem aM_14 : (wM g am S)[14]? = some (am 14, .inl (g.2.1 0, 44, .inl (S 20))) := rfl
theorem sM_14 (i : Nat) (x : Int32) : (wM g am S).set 14 (am 14, .inl (g.2.1 0, 44, .inl (upd (S 20) i x))) = wM g am (dk_U S 20 i x) := rfl
theorem aM_15 : (wM g am S)[15]? = some (am 15, .inl (g.2.1 0, 44, .inl (S 21))) := rfl
theorem sM_15 (i : Nat) (x : Int32) : (wM g am S).set 15 (am 15, .inl (g.2.1 0, 44, .inl (upd (S 21) i x))) = wM g am (dk_U S 21 i x) := rfl
theorem aM_16 : (wM g am S)[16]? = some (am 16, .inl (g.2.1 0, 44, .inl (S 22))) := rfl
theorem sM_16 (i : Nat) (x : Int32) : (wM g am S).set 16 (am 16, .inl (g.2.1 0, 44, .inl (upd (S 22) i x))) = wM g am (dk_U S 22 i x) := rfl
theorem aM_17 : (wM g am S)[17]? = some (am 17, .inl (g.2.1 0, 44, .inl (S 23))) := rfl
theorem sM_17 (i : Nat) (x : Int32) : (wM g am S).set 17 (am 17, .inl (g.2.1 0, 44, .inl (upd (S 23) i x))) = wM g am (dk_U S 23 i x) := rfl
theorem aM_18 : (wM g am S)[18]? = some (am 18, .inl (g.2.1 0, 44, .inl (S 24))) := rfl
theorem sM_18 (i : Nat) (x : Int32) : (wM g am S).set 18 (am 18, .inl (g.2.1 0, 44, .inl (upd (S 24) i x))) = wM g am (dk_U S 24 i x) := rfl
theorem aM_19 : (wM g am S)[19]? = some (am 19, .inl (g.2.1 0, 44, .inl (S 25))) := rfl
theorem sM_19 (i : Nat) (x : Int32) : (wM g am S).set 19 (am 19, .inl (g.2.1 0, 44, .inl (upd (S 25) i x))) = wM g am (dk_U S 25 i x) := rfl
theorem aM_20 : (wM g am S)[20]? = some (am 20, .inl (g.2.1 1, 44, .inl (S 26))) := rfl
theorem sM_20 (i : Nat) (x : Int32) : (wM g am S).set 20 (am 20, .inl (g.2.1 1, 44, .inl (upd (S 26) i x))) = wM g am (dk_U S 26 i x) := rfl
theorem aM_21 : (wM g am S)[21]? = some (am 21, .inl (g.2.1 0, 6, .inl (S 27))) := rfl
theorem sM_21 (i : Nat) (x : Int32) : (wM g am S).set 21 (am 21, .inl (g.2.1 0, 6, .inl (upd (S 27) i x))) = wM g am (dk_U S 27 i x) := rfl
theorem aM_22 : (wM g am S)[22]? = some (am 22, .inl (g.2.1 0, 6, .inl (S 28))) := rfl
theorem sM_22 (i : Nat) (x : Int32) : (wM g am S).set 22 (am 22, .inl (g.2.1 0, 6, .inl (upd (S 28) i x))) = wM g am (dk_U S 28 i x) := rfl
theorem aM_23 : (wM g am S)[23]? = some (am 23, .inl (g.2.1 1, 6, .inl (S 29))) := rfl
theorem sM_23 (i : Nat) (x : Int32) : (wM g am S).set 23 (am 23, .inl (g.2.1 1, 6, .inl (upd (S 29) i x))) = wM g am (dk_U S 29 i x) := rfl
theorem aM_24 : (wM g am S)[24]? = some (am 24, .inl (g.2.1 0, 8, .inl (S 35))) := rfl
theorem sM_24 (i : Nat) (x : Int32) : (wM g am S).set 24 (am 24, .inl (g.2.1 0, 8, .inl (upd (S 35) i x))) = wM g am (dk_U S 35 i x) := rfl
theorem aM_25 : (wM g am S)[25]? = some (am 25, .inl (g.2.1 0, 32, .inl (S 36))) := rfl
theorem sM_25 (i : Nat) (x : Int32) : (wM g am S).set 25 (am 25, .inl (g.2.1 0, 32, .inl (upd (S 36) i x))) = wM g am (dk_U S 36 i x) := rfl
theorem aM_26 : (wM g am S)[26]? = some (am 26, .inl (g.2.1 0, 4, .inl (S 37))) := rfl
theorem sM_26 (i : Nat) (x : Int32) : (wM g am S).set 26 (am 26, .inl (g.2.1 0, 4, .inl (upd (S 37) i x))) = wM g am (dk_U S 37 i x) := rfl
theorem aM_27 : (wM g am S)[27]? = some (am 27, .inl (g.2.1 0, 4, .inl (S 38))) := rfl
theorem sM_27 (i : Nat) (x : Int32) : (wM g am S).set 27 (am 27, .inl (g.2.1 0, 4, .inl (upd (S 38) i x))) = wM g am (dk_U S 38 i x) := rfl
theorem aM_28 : (wM g am S)[28]? = some (am 28, .inl (g.2.1 0, 160, .inl (S 39))) := rfl
theorem sM_28 (i : Nat) (x : Int32) : (wM g am S).set 28 (am 28, .inl (g.2.1 0, 160, .inl (upd (S 39) i x))) = wM g am (dk_U S 39 i x) := rfl
theorem aM_29 : (wM g am S)[29]? = some (am 29, .inl (g.2.1 3, 11, .inr (.inl dk_words))) := rfl
theorem aM_30 : (wM g am S)[30]? = some (am 30, .inl (g.2.1 0, 200, .inl (S 45))) := rfl
theorem sM_30 (i : Nat) (x : Int32) : (wM g am S).set 30 (am 30, .inl (g.2.1 0, 200, .inl (upd (S 45) i x))) = wM g am (dk_U S 45 i x) := rfl
theorem aM_31 : (wM g am S)[31]? = some (am 31, .inl (g.2.1 0, 200, .inl (S 49))) := rfl
theorem sM_31 (i : Nat) (x : Int32) : (wM g am S).set 31 (am 31, .inl (g.2.1 0, 200, .inl (upd (S 49) i x))) = wM g am (dk_U S 49 i x) := rfl
theorem aM_32 : (wM g am S)[32]? = some (am 32, .inl (g.2.1 0, 6, .inl (S 50))) := rfl
theorem sM_32 (i : Nat) (x : Int32) : (wM g am S).set 32 (am 32, .inl (g.2.1 0, 6, .inl (upd (S 50) i x))) = wM g am (dk_U S 50 i x) := rfl
end WM
end
section
theorem dk_ii (x : Int32) {n : Int} {v : Int32} (h : Int32.ofInt n = v) : x + Int32.ofInt n = x + v := by rw [h]
/-- the text in use -/
def dk_t {β : Type} (T : Nat) (S : dk_S) (k : Nat → Option β) : Option β := if (S 114 0).toNatClampNeg < T then k (S 114 0).toNatClampNeg else none
theorem dk_t_out {β : Type} {T : Nat} {S : dk_S} {k : Nat → Option β} {res : β} (h : dk_t T S k = some res) : ∃ t, t < T ∧ t = (S 114 0).toNatClampNeg ∧ k t = some res := by
  unfold dk_t at h; split at h
  · rename_i q; exact ⟨_, q, rfl, h⟩
  · cases h
def dk_sh {β : Type} (i : Int32) (k : Nat → Option β) : Option β := if i < 0 ∨ 4 ≤ i.toNatClampNeg then none else k i.toNatClampNeg
theorem dk_sh_out {β : Type} {i : Int32} {k : Nat → Option β} {res : β} (h : dk_sh i k = some res) : vp_in i 4 ∧ k i.toNatClampNeg = some res := by
  unfold dk_sh at h; split at h
  · cases h
  · rename_i q; exact ⟨q, h⟩

abbrev b_Land_hasGround : ByteArray := prog_4_method_2_code
def y_Land_hasGround : MethodName := ⟨R_Land, "hasGround", "(I)Z"⟩
theorem d_Land_hasGround_0 : decode b_Land_hasGround 0 = .ok (.iload_n 1, 1) := by decide +kernel
theorem d_Land_hasGround_1 : decode b_Land_hasGround 1 = .ok (.ifCond .lt 15, 3) := by decide +kernel
theorem d_Land_hasGround_4 : decode b_Land_hasGround 4 = .ok (.iload_n 1, 1) := by decide +kernel
theorem d_Land_hasGround_5 : decode b_Land_hasGround 5 = .ok (.aload_n 0, 1) := by decide +kernel
theorem d_Land_hasGround_6 : decode b_Land_hasGround 6 = .ok (.getfield 21, 3) := by decide +kernel
theorem d_Land_hasGround_9 : decode b_Land_hasGround 9 = .ok (.if_icmp .ge 7, 3) := by decide +kernel
theorem d_Land_hasGround_12 : decode b_Land_hasGround 12 = .ok (.iconst 1, 1) := by decide +kernel
theorem d_Land_hasGround_13 : decode b_Land_hasGround 13 = .ok (.goto 4, 3) := by decide +kernel
theorem d_Land_hasGround_16 : decode b_Land_hasGround 16 = .ok (.iconst 0, 1) := by decide +kernel
theorem d_Land_hasGround_17 : decode b_Land_hasGround 17 = .ok (.ireturn, 1) := by decide +kernel
theorem v_Land_hasGround : dk_Yv y_Land_hasGround b_Land_hasGround 2 (some .boolean) 1 := ⟨dk_in (List.mem_of_getElem? (i := 422) (by decide +kernel)) rfl, dk_in (List.mem_of_getElem? (i := 423) (by decide +kernel)) rfl, dk_in (List.mem_of_getElem? (i := 67) (by decide +kernel)) rfl, dk_in (List.mem_of_getElem? (i := 424) (by decide +kernel)) rfl, by decide +kernel, by decide +kernel, by decide +kernel⟩
abbrev rm_Land_hasGround : Room := { frames := 0, cells := 0, slots := 0, locals := 0 }
theorem f_Land_21 : Cond.fieldLink R_Land 21 (T_Land 3).1 (T_Land 3).2.1 (T_Land 3).2.2.1 ∈ dk_tb := dk_in (List.mem_of_getElem? (i := 106) (by decide +kernel)) rfl
def B_Land_hasGround_0 (n T : Nat)  (x1 : Int32) (S : dk_S) : Option (Int32 × dk_S) :=
  if x1 < 0 then (dk_b (0 : Int32) (some ((0 : Int32), S))) else (if (S 102 0) ≤ x1 then (dk_b (0 : Int32) (some ((0 : Int32), S))) else (dk_b (1 : Int32) (some ((1 : Int32), S))))
set_option maxRecDepth 20000 in
theorem kb_Land_hasGround_0 {p : Program} {l : Launch} {e : Env} {s : State} {m : MethodId} {args : Array Value} {below : List Frame} {meth : Method} {c : Code} {g : dk_G} {A : Nat → Prop} {Q : State → Prop} {ad : Nat → Nat} {T : Nat} {n : Nat} {res : (Int32 × dk_S)} (X : dk_X p s m args meth c b_Land_hasGround 2 R_Land (some .boolean) g A) (hR : dk_Ri p l e rm_Land_hasGround s m args below meth c g A Q 2 b_Land_hasGround (some .boolean) (wC g ad T) res)  {x1 : Int32} {S : dk_S}  (hF : B_Land_hasGround_0 n T  x1 S = some res) : dk_J p l e rm_Land_hasGround s m args below meth c g A Q 2 0 0 0 [(0, .ref (ad 1)), (1, .int x1)] [] (wC g ad T S) := by
  unfold B_Land_hasGround_0 at hF
  refine dk_iload_n (k := 1) (i := 1) X 1 rfl rfl d_Land_hasGround_0 ?_
  refine dk_if_lt (tgt := 16) X (by decide) d_Land_hasGround_1 hF (fun hF => ?_) (fun hF => ?_)
  · refine dk_iconst (v := 0) X (by decide) d_Land_hasGround_16 ?_
    exact dk_retz hR hF d_Land_hasGround_17
  · refine dk_iload_n (k := 1) (i := 1) X 1 rfl rfl d_Land_hasGround_4 ?_
    refine dk_aload_n (k := 0) (i := 0) X 0 rfl rfl d_Land_hasGround_5 ?_
    refine dk_get X q_Land 1 3 (by decide) (oC_Land g ad T S) rfl f_Land_21 d_Land_hasGround_6 ?_
    refine dk_icmp_ge (tgt := 16) X (by decide) d_Land_hasGround_9 hF (fun hF => ?_) (fun hF => ?_)
    · refine dk_iconst (v := 0) X (by decide) d_Land_hasGround_16 ?_
      exact dk_retz hR hF d_Land_hasGround_17
    · refine dk_iconst (v := 1) X (by decide) d_Land_hasGround_12 ?_
      refine dk_goto (tgt := 17) X (by decide) d_Land_hasGround_13 ?_
      exact dk_retz hR hF d_Land_hasGround_17
def F_Land_hasGround (n T : Nat) (x1 : Int32) (S : dk_S) : Option (Int32 × dk_S) := B_Land_hasGround_0 n T x1 S
theorem c_Land_hasGround (l : Launch) (g : dk_G) (ad : Nat → Nat) (T n : Nat) (x1 : Int32)  (S : dk_S) : dk_Mi l g y_Land_hasGround b_Land_hasGround 2 rm_Land_hasGround (some .boolean) [.ref (ad 1), .int x1] (wC g ad T) S (F_Land_hasGround n T x1 S) := dk_enteri (by decide) (Nat.le_of_ble_eq_true rfl) (fun p e s m args below meth c A Q res hF X hR => (kb_Land_hasGround_0 (n := n) X hR  hF))
abbrev b_Land_hasBeast : ByteArray := prog_4_method_3_code
def y_Land_hasBeast : MethodName := ⟨R_Land, "hasBeast", "(I)Z"⟩
theorem d_Land_hasBeast_0 : decode b_Land_hasBeast 0 = .ok (.iload_n 1, 1) := by decide +kernel
theorem d_Land_hasBeast_1 : decode b_Land_hasBeast 1 = .ok (.ifCond .lt 15, 3) := by decide +kernel
theorem d_Land_hasBeast_4 : decode b_Land_hasBeast 4 = .ok (.iload_n 1, 1) := by decide +kernel
theorem d_Land_hasBeast_5 : decode b_Land_hasBeast 5 = .ok (.aload_n 0, 1) := by decide +kernel
theorem d_Land_hasBeast_6 : decode b_Land_hasBeast 6 = .ok (.getfield 25, 3) := by decide +kernel
theorem d_Land_hasBeast_9 : decode b_Land_hasBeast 9 = .ok (.if_icmp .ge 7, 3) := by decide +kernel
theorem d_Land_hasBeast_12 : decode b_Land_hasBeast 12 = .ok (.iconst 1, 1) := by decide +kernel
theorem d_Land_hasBeast_13 : decode b_Land_hasBeast 13 = .ok (.goto 4, 3) := by decide +kernel
theorem d_Land_hasBeast_16 : decode b_Land_hasBeast 16 = .ok (.iconst 0, 1) := by decide +kernel
theorem d_Land_hasBeast_17 : decode b_Land_hasBeast 17 = .ok (.ireturn, 1) := by decide +kernel
theorem v_Land_hasBeast : dk_Yv y_Land_hasBeast b_Land_hasBeast 2 (some .boolean) 1 := ⟨dk_in (List.mem_of_getElem? (i := 438) (by decide +kernel)) rfl, dk_in (List.mem_of_getElem? (i := 439) (by decide +kernel)) rfl, dk_in (List.mem_of_getElem? (i := 67) (by decide +kernel)) rfl, dk_in (List.mem_of_getElem? (i := 440) (by decide +kernel)) rfl, by decide +kernel, by decide +kernel, by decide +kernel⟩
abbrev rm_Land_hasBeast : Room := { frames := 0, cells := 0, slots := 0, locals := 0 }
theorem f_Land_25 : Cond.fieldLink R_Land 25 (T_Land 4).1 (T_Land 4).2.1 (T_Land 4).2.2.1 ∈ dk_tb := dk_in (List.mem_of_getElem? (i := 109) (by decide +kernel)) rfl
def B_Land_hasBeast_0 (n T : Nat)  (x1 : Int32) (S : dk_S) : Option (Int32 × dk_S) :=
  if x1 < 0 then (dk_b (0 : Int32) (some ((0 : Int32), S))) else (if (S 103 0) ≤ x1 then (dk_b (0 : Int32) (some ((0 : Int32), S))) else (dk_b (1 : Int32) (some ((1 : Int32), S))))
set_option maxRecDepth 20000 in
theorem kb_Land_hasBeast_0 {p : Program} {l : Launch} {e : Env} {s : State} {m : MethodId} {args : Array Value} {below : List Frame} {meth : Method} {c : Code} {g : dk_G} {A : Nat → Prop} {Q : State → Prop} {ad : Nat → Nat} {T : Nat} {n : Nat} {res : (Int32 × dk_S)} (X : dk_X p s m args meth c b_Land_hasBeast 2 R_Land (some .boolean) g A) (hR : dk_Ri p l e rm_Land_hasBeast s m args below meth c g A Q 2 b_Land_hasBeast (some .boolean) (wC g ad T) res)  {x1 : Int32} {S : dk_S}  (hF : B_Land_hasBeast_0 n T  x1 S = some res) : dk_J p l e rm_Land_hasBeast s m args below meth c g A Q 2 0 0 0 [(0, .ref (ad 1)), (1, .int x1)] [] (wC g ad T S) := by
  unfold B_Land_hasBeast_0 at hF
  refine dk_iload_n (k := 1) (i := 1) X 1 rfl rfl d_Land_hasBeast_0 ?_
  refine dk_if_lt (tgt := 16) X (by decide) d_Land_hasBeast_1 hF (fun hF => ?_) (fun hF => ?_)
  · refine dk_iconst (v := 0) X (by decide) d_Land_hasBeast_16 ?_
    exact dk_retz hR hF d_Land_hasBeast_17
  · refine dk_iload_n (k := 1) (i := 1) X 1 rfl rfl d_Land_hasBeast_4 ?_
    refine dk_aload_n (k := 0) (i := 0) X 0 rfl rfl d_Land_hasBeast_5 ?_
    refine dk_get X q_Land 1 4 (by decide) (oC_Land g ad T S) rfl f_Land_25 d_Land_hasBeast_6 ?_
    refine dk_icmp_ge (tgt := 16) X (by decide) d_Land_hasBeast_9 hF (fun hF => ?_) (fun hF => ?_)
    · refine dk_iconst (v := 0) X (by decide) d_Land_hasBeast_16 ?_
      exact dk_retz hR hF d_Land_hasBeast_17
    · refine dk_iconst (v := 1) X (by decide) d_Land_hasBeast_12 ?_
      refine dk_goto (tgt := 17) X (by decide) d_Land_hasBeast_13 ?_
      exact dk_retz hR hF d_Land_hasBeast_17
def F_Land_hasBeast (n T : Nat) (x1 : Int32) (S : dk_S) : Option (Int32 × dk_S) := B_Land_hasBeast_0 n T x1 S
theorem c_Land_hasBeast (l : Launch) (g : dk_G) (ad : Nat → Nat) (T n : Nat) (x1 : Int32)  (S : dk_S) : dk_Mi l g y_Land_hasBeast b_Land_hasBeast 2 rm_Land_hasBeast (some .boolean) [.ref (ad 1), .int x1] (wC g ad T) S (F_Land_hasBeast n T x1 S) := dk_enteri (by decide) (Nat.le_of_ble_eq_true rfl) (fun p e s m args below meth c A Q res hF X hR => (kb_Land_hasBeast_0 (n := n) X hR  hF))
abbrev b_Land_ownerOf : ByteArray := prog_4_method_4_code
def y_Land_ownerOf : MethodName := ⟨R_Land, "ownerOf", "(I)I"⟩
theorem d_Land_ownerOf_0 : decode b_Land_ownerOf 0 = .ok (.iload_n 1, 1) := by decide +kernel
theorem d_Land_ownerOf_1 : decode b_Land_ownerOf 1 = .ok (.ifCond .lt 20, 3) := by decide +kernel
theorem d_Land_ownerOf_4 : decode b_Land_ownerOf 4 = .ok (.iload_n 1, 1) := by decide +kernel
theorem d_Land_ownerOf_5 : decode b_Land_ownerOf 5 = .ok (.aload_n 0, 1) := by decide +kernel
theorem d_Land_ownerOf_6 : decode b_Land_ownerOf 6 = .ok (.getfield 21, 3) := by decide +kernel
theorem d_Land_ownerOf_9 : decode b_Land_ownerOf 9 = .ok (.if_icmp .ge 12, 3) := by decide +kernel
theorem d_Land_ownerOf_12 : decode b_Land_ownerOf 12 = .ok (.aload_n 0, 1) := by decide +kernel
theorem d_Land_ownerOf_13 : decode b_Land_ownerOf 13 = .ok (.getfield 9, 3) := by decide +kernel
theorem d_Land_ownerOf_16 : decode b_Land_ownerOf 16 = .ok (.iload_n 1, 1) := by decide +kernel
theorem d_Land_ownerOf_17 : decode b_Land_ownerOf 17 = .ok (.iaload, 1) := by decide +kernel
theorem d_Land_ownerOf_18 : decode b_Land_ownerOf 18 = .ok (.goto 4, 3) := by decide +kernel
theorem d_Land_ownerOf_21 : decode b_Land_ownerOf 21 = .ok (.iconst (-1), 1) := by decide +kernel
theorem d_Land_ownerOf_22 : decode b_Land_ownerOf 22 = .ok (.ireturn, 1) := by decide +kernel
theorem v_Land_ownerOf : dk_Yv y_Land_ownerOf b_Land_ownerOf 2 (some .int) 1 := ⟨dk_in (List.mem_of_getElem? (i := 656) (by decide +kernel)) rfl, dk_in (List.mem_of_getElem? (i := 657) (by decide +kernel)) rfl, dk_in (List.mem_of_getElem? (i := 67) (by decide +kernel)) rfl, dk_in (List.mem_of_getElem? (i := 658) (by decide +kernel)) rfl, by decide +kernel, by decide +kernel, by decide +kernel⟩
abbrev rm_Land_ownerOf : Room := { frames := 0, cells := 0, slots := 0, locals := 0 }
theorem f_Land_9 : Cond.fieldLink R_Land 9 (T_Land 0).1 (T_Land 0).2.1 (T_Land 0).2.2.1 ∈ dk_tb := dk_in (List.mem_of_getElem? (i := 98) (by decide +kernel)) rfl
def B_Land_ownerOf_0 (n T : Nat)  (x1 : Int32) (S : dk_S) : Option (Int32 × dk_S) :=
  if x1 < 0 then (some ((-1 : Int32), S)) else (if (S 102 0) ≤ x1 then (some ((-1 : Int32), S)) else (dk_r 8 (S 2) x1 fun v1 => some (v1, S)))
set_option maxRecDepth 20000 in
theorem kb_Land_ownerOf_0 {p : Program} {l : Launch} {e : Env} {s : State} {m : MethodId} {args : Array Value} {below : List Frame} {meth : Method} {c : Code} {g : dk_G} {A : Nat → Prop} {Q : State → Prop} {ad : Nat → Nat} {T : Nat} {n : Nat} {res : (Int32 × dk_S)} (X : dk_X p s m args meth c b_Land_ownerOf 2 R_Land (some .int) g A) (hR : dk_Ri p l e rm_Land_ownerOf s m args below meth c g A Q 2 b_Land_ownerOf (some .int) (wC g ad T) res)  {x1 : Int32} {S : dk_S}  (hF : B_Land_ownerOf_0 n T  x1 S = some res) : dk_J p l e rm_Land_ownerOf s m args below meth c g A Q 2 0 0 0 [(0, .ref (ad 1)), (1, .int x1)] [] (wC g ad T S) := by
  unfold B_Land_ownerOf_0 at hF
  refine dk_iload_n (k := 1) (i := 1) X 1 rfl rfl d_Land_ownerOf_0 ?_
  refine dk_if_lt (tgt := 21) X (by decide) d_Land_ownerOf_1 hF (fun hF => ?_) (fun hF => ?_)
  · refine dk_iconst (v := -1) X (by decide) d_Land_ownerOf_21 ?_
    exact dk_reti hR hF d_Land_ownerOf_22
  · refine dk_iload_n (k := 1) (i := 1) X 1 rfl rfl d_Land_ownerOf_4 ?_
    refine dk_aload_n (k := 0) (i := 0) X 0 rfl rfl d_Land_ownerOf_5 ?_
    refine dk_get X q_Land 1 3 (by decide) (oC_Land g ad T S) rfl f_Land_21 d_Land_ownerOf_6 ?_
    refine dk_icmp_ge (tgt := 21) X (by decide) d_Land_ownerOf_9 hF (fun hF => ?_) (fun hF => ?_)
    · refine dk_iconst (v := -1) X (by decide) d_Land_ownerOf_21 ?_
      exact dk_reti hR hF d_Land_ownerOf_22
    · refine dk_aload_n (k := 0) (i := 0) X 0 rfl rfl d_Land_ownerOf_12 ?_
      refine dk_get X q_Land 1 0 (by decide) (oC_Land g ad T S) rfl f_Land_9 d_Land_ownerOf_13 ?_
      refine dk_iload_n (k := 1) (i := 1) X 1 rfl rfl d_Land_ownerOf_16 ?_
      refine dk_iald X 2 (aC_2 g ad T S) d_Land_ownerOf_17 hF (fun v1 hF => ?_)
      refine dk_goto (tgt := 22) X (by decide) d_Land_ownerOf_18 ?_
      exact dk_reti hR hF d_Land_ownerOf_22
def F_Land_ownerOf (n T : Nat) (x1 : Int32) (S : dk_S) : Option (Int32 × dk_S) := B_Land_ownerOf_0 n T x1 S
theorem c_Land_ownerOf (l : Launch) (g : dk_G) (ad : Nat → Nat) (T n : Nat) (x1 : Int32)  (S : dk_S) : dk_Mi l g y_Land_ownerOf b_Land_ownerOf 2 rm_Land_ownerOf (some .int) [.ref (ad 1), .int x1] (wC g ad T) S (F_Land_ownerOf n T x1 S) := dk_enteri (by decide) (Nat.le_of_ble_eq_true rfl) (fun p e s m args below meth c A Q res hF X hR => (kb_Land_ownerOf_0 (n := n) X hR  hF))
abbrev b_Land_isTame : ByteArray := prog_4_method_5_code
def y_Land_isTame : MethodName := ⟨R_Land, "isTame", "(I)Z"⟩
theorem d_Land_isTame_0 : decode b_Land_isTame 0 = .ok (.iload_n 1, 1) := by decide +kernel
theorem d_Land_isTame_1 : decode b_Land_isTame 1 = .ok (.ifCond .lt 25, 3) := by decide +kernel
theorem d_Land_isTame_4 : decode b_Land_isTame 4 = .ok (.iload_n 1, 1) := by decide +kernel
theorem d_Land_isTame_5 : decode b_Land_isTame 5 = .ok (.aload_n 0, 1) := by decide +kernel
theorem d_Land_isTame_6 : decode b_Land_isTame 6 = .ok (.getfield 25, 3) := by decide +kernel
theorem d_Land_isTame_9 : decode b_Land_isTame 9 = .ok (.if_icmp .ge 17, 3) := by decide +kernel
theorem d_Land_isTame_12 : decode b_Land_isTame 12 = .ok (.aload_n 0, 1) := by decide +kernel
theorem d_Land_isTame_13 : decode b_Land_isTame 13 = .ok (.getfield 18, 3) := by decide +kernel
theorem d_Land_isTame_16 : decode b_Land_isTame 16 = .ok (.iload_n 1, 1) := by decide +kernel
theorem d_Land_isTame_17 : decode b_Land_isTame 17 = .ok (.iaload, 1) := by decide +kernel
theorem d_Land_isTame_18 : decode b_Land_isTame 18 = .ok (.iconst (-1), 1) := by decide +kernel
theorem d_Land_isTame_19 : decode b_Land_isTame 19 = .ok (.if_icmp .eq 7, 3) := by decide +kernel
theorem d_Land_isTame_22 : decode b_Land_isTame 22 = .ok (.iconst 1, 1) := by decide +kernel
theorem d_Land_isTame_23 : decode b_Land_isTame 23 = .ok (.goto 4, 3) := by decide +kernel
theorem d_Land_isTame_26 : decode b_Land_isTame 26 = .ok (.iconst 0, 1) := by decide +kernel
theorem d_Land_isTame_27 : decode b_Land_isTame 27 = .ok (.ireturn, 1) := by decide +kernel
theorem v_Land_isTame : dk_Yv y_Land_isTame b_Land_isTame 2 (some .boolean) 1 := ⟨dk_in (List.mem_of_getElem? (i := 664) (by decide +kernel)) rfl, dk_in (List.mem_of_getElem? (i := 665) (by decide +kernel)) rfl, dk_in (List.mem_of_getElem? (i := 67) (by decide +kernel)) rfl, dk_in (List.mem_of_getElem? (i := 666) (by decide +kernel)) rfl, by decide +kernel, by decide +kernel, by decide +kernel⟩
abbrev rm_Land_isTame : Room := { frames := 0, cells := 0, slots := 0, locals := 0 }
theorem f_Land_18 : Cond.fieldLink R_Land 18 (T_Land 2).1 (T_Land 2).2.1 (T_Land 2).2.2.1 ∈ dk_tb := dk_in (List.mem_of_getElem? (i := 104) (by decide +kernel)) rfl
def B_Land_isTame_0 (n T : Nat)  (x1 : Int32) (S : dk_S) : Option (Int32 × dk_S) :=
  if x1 < 0 then (dk_b (0 : Int32) (some ((0 : Int32), S))) else (if (S 103 0) ≤ x1 then (dk_b (0 : Int32) (some ((0 : Int32), S))) else (dk_r 6 (S 4) x1 fun v1 => if v1 = (-1 : Int32) then (dk_b (0 : Int32) (some ((0 : Int32), S))) else (dk_b (1 : Int32) (some ((1 : Int32), S)))))
set_option maxRecDepth 20000 in
theorem kb_Land_isTame_0 {p : Program} {l : Launch} {e : Env} {s : State} {m : MethodId} {args : Array Value} {below : List Frame} {meth : Method} {c : Code} {g : dk_G} {A : Nat → Prop} {Q : State → Prop} {ad : Nat → Nat} {T : Nat} {n : Nat} {res : (Int32 × dk_S)} (X : dk_X p s m args meth c b_Land_isTame 2 R_Land (some .boolean) g A) (hR : dk_Ri p l e rm_Land_isTame s m args below meth c g A Q 2 b_Land_isTame (some .boolean) (wC g ad T) res)  {x1 : Int32} {S : dk_S}  (hF : B_Land_isTame_0 n T  x1 S = some res) : dk_J p l e rm_Land_isTame s m args below meth c g A Q 2 0 0 0 [(0, .ref (ad 1)), (1, .int x1)] [] (wC g ad T S) := by
  unfold B_Land_isTame_0 at hF
  refine dk_iload_n (k := 1) (i := 1) X 1 rfl rfl d_Land_isTame_0 ?_
  refine dk_if_lt (tgt := 26) X (by decide) d_Land_isTame_1 hF (fun hF => ?_) (fun hF => ?_)
  · refine dk_iconst (v := 0) X (by decide) d_Land_isTame_26 ?_
    exact dk_retz hR hF d_Land_isTame_27
  · refine dk_iload_n (k := 1) (i := 1) X 1 rfl rfl d_Land_isTame_4 ?_
    refine dk_aload_n (k := 0) (i := 0) X 0 rfl rfl d_Land_isTame_5 ?_
    refine dk_get X q_Land 1 4 (by decide) (oC_Land g ad T S) rfl f_Land_25 d_Land_isTame_6 ?_
    refine dk_icmp_ge (tgt := 26) X (by decide) d_Land_isTame_9 hF (fun hF => ?_) (fun hF => ?_)
    · refine dk_iconst (v := 0) X (by decide) d_Land_isTame_26 ?_
      exact dk_retz hR hF d_Land_isTame_27
    · refine dk_aload_n (k := 0) (i := 0) X 0 rfl rfl d_Land_isTame_12 ?_
      refine dk_get X q_Land 1 2 (by decide) (oC_Land g ad T S) rfl f_Land_18 d_Land_isTame_13 ?_
      refine dk_iload_n (k := 1) (i := 1) X 1 rfl rfl d_Land_isTame_16 ?_
      refine dk_iald X 4 (aC_4 g ad T S) d_Land_isTame_17 hF (fun v1 hF => ?_)
      refine dk_iconst (v := -1) X (by decide) d_Land_isTame_18 ?_
      refine dk_icmp_eq (tgt := 26) X (by decide) d_Land_isTame_19 hF (fun hF => ?_) (fun hF => ?_)
      · refine dk_iconst (v := 0) X (by decide) d_Land_isTame_26 ?_
        exact dk_retz hR hF d_Land_isTame_27
      · refine dk_iconst (v := 1) X (by decide) d_Land_isTame_22 ?_
        refine dk_goto (tgt := 27) X (by decide) d_Land_isTame_23 ?_
        exact dk_retz hR hF d_Land_isTame_27
def F_Land_isTame (n T : Nat) (x1 : Int32) (S : dk_S) : Option (Int32 × dk_S) := B_Land_isTame_0 n T x1 S
theorem c_Land_isTame (l : Launch) (g : dk_G) (ad : Nat → Nat) (T n : Nat) (x1 : Int32)  (S : dk_S) : dk_Mi l g y_Land_isTame b_Land_isTame 2 rm_Land_isTame (some .boolean) [.ref (ad 1), .int x1] (wC g ad T) S (F_Land_isTame n T x1 S) := dk_enteri (by decide) (Nat.le_of_ble_eq_true rfl) (fun p e s m args below meth c A Q res hF X hR => (kb_Land_isTame_0 (n := n) X hR  hF))
abbrev b_Land_addGround : ByteArray := prog_4_method_6_code
def y_Land_addGround : MethodName := ⟨R_Land, "addGround", "(I)I"⟩
theorem d_Land_addGround_0 : decode b_Land_addGround 0 = .ok (.aload_n 0, 1) := by decide +kernel
theorem d_Land_addGround_1 : decode b_Land_addGround 1 = .ok (.getfield 21, 3) := by decide +kernel
theorem d_Land_addGround_4 : decode b_Land_addGround 4 = .ok (.bipush 8, 2) := by decide +kernel
theorem d_Land_addGround_6 : decode b_Land_addGround 6 = .ok (.if_icmp .lt 6, 3) := by decide +kernel
theorem d_Land_addGround_9 : decode b_Land_addGround 9 = .ok (.bipush (-4), 2) := by decide +kernel
theorem d_Land_addGround_11 : decode b_Land_addGround 11 = .ok (.ireturn, 1) := by decide +kernel
theorem d_Land_addGround_12 : decode b_Land_addGround 12 = .ok (.aload_n 0, 1) := by decide +kernel
theorem d_Land_addGround_13 : decode b_Land_addGround 13 = .ok (.getfield 9, 3) := by decide +kernel
theorem d_Land_addGround_16 : decode b_Land_addGround 16 = .ok (.aload_n 0, 1) := by decide +kernel
theorem d_Land_addGround_17 : decode b_Land_addGround 17 = .ok (.getfield 21, 3) := by decide +kernel
theorem d_Land_addGround_20 : decode b_Land_addGround 20 = .ok (.iload_n 1, 1) := by decide +kernel
theorem d_Land_addGround_21 : decode b_Land_addGround 21 = .ok (.iastore, 1) := by decide +kernel
theorem d_Land_addGround_22 : decode b_Land_addGround 22 = .ok (.aload_n 0, 1) := by decide +kernel
theorem d_Land_addGround_23 : decode b_Land_addGround 23 = .ok (.dup, 1) := by decide +kernel
theorem d_Land_addGround_24 : decode b_Land_addGround 24 = .ok (.getfield 21, 3) := by decide +kernel
theorem d_Land_addGround_27 : decode b_Land_addGround 27 = .ok (.dup_x1, 1) := by decide +kernel
theorem d_Land_addGround_28 : decode b_Land_addGround 28 = .ok (.iconst 1, 1) := by decide +kernel
theorem d_Land_addGround_29 : decode b_Land_addGround 29 = .ok (.iadd, 1) := by decide +kernel
theorem d_Land_addGround_30 : decode b_Land_addGround 30 = .ok (.putfield 21, 3) := by decide +kernel
theorem d_Land_addGround_33 : decode b_Land_addGround 33 = .ok (.ireturn, 1) := by decide +kernel
theorem v_Land_addGround : dk_Yv y_Land_addGround b_Land_addGround 2 (some .int) 1 := ⟨dk_in (List.mem_of_getElem? (i := 414) (by decide +kernel)) rfl, dk_in (List.mem_of_getElem? (i := 415) (by decide +kernel)) rfl, dk_in (List.mem_of_getElem? (i := 67) (by decide +kernel)) rfl, dk_in (List.mem_of_getElem? (i := 416) (by decide +kernel)) rfl, by decide +kernel, by decide +kernel, by decide +kernel⟩
abbrev rm_Land_addGround : Room := { frames := 0, cells := 0, slots := 0, locals := 0 }
def B_Land_addGround_0 (n T : Nat)  (x1 : Int32) (S : dk_S) : Option (Int32 × dk_S) :=
  if (S 102 0) < (8 : Int32) then (dk_w S 2 8 (S 102 0) x1 fun S1 => dk_p S1 102 ((S1 102 0) + (1 : Int32)) fun S2 => some ((S1 102 0), S2)) else (some ((-4 : Int32), S))
set_option maxRecDepth 20000 in
theorem kb_Land_addGround_0 {p : Program} {l : Launch} {e : Env} {s : State} {m : MethodId} {args : Array Value} {below : List Frame} {meth : Method} {c : Code} {g : dk_G} {A : Nat → Prop} {Q : State → Prop} {ad : Nat → Nat} {T : Nat} {n : Nat} {res : (Int32 × dk_S)} (X : dk_X p s m args meth c b_Land_addGround 2 R_Land (some .int) g A) (hR : dk_Ri p l e rm_Land_addGround s m args below meth c g A Q 2 b_Land_addGround (some .int) (wC g ad T) res)  {x1 : Int32} {S : dk_S}  (hF : B_Land_addGround_0 n T  x1 S = some res) : dk_J p l e rm_Land_addGround s m args below meth c g A Q 2 0 0 0 [(0, .ref (ad 1)), (1, .int x1)] [] (wC g ad T S) := by
  unfold B_Land_addGround_0 at hF
  refine dk_aload_n (k := 0) (i := 0) X 0 rfl rfl d_Land_addGround_0 ?_
  refine dk_get X q_Land 1 3 (by decide) (oC_Land g ad T S) rfl f_Land_21 d_Land_addGround_1 ?_
  refine dk_bipush (v := 8) X (by decide) d_Land_addGround_4 ?_
  refine dk_icmp_lt (tgt := 12) X (by decide) d_Land_addGround_6 hF (fun hF => ?_) (fun hF => ?_)
  · refine dk_aload_n (k := 0) (i := 0) X 0 rfl rfl d_Land_addGround_12 ?_
    refine dk_get X q_Land 1 0 (by decide) (oC_Land g ad T S) rfl f_Land_9 d_Land_addGround_13 ?_
    refine dk_aload_n (k := 0) (i := 0) X 0 rfl rfl d_Land_addGround_16 ?_
    refine dk_get X q_Land 1 3 (by decide) (oC_Land g ad T S) rfl f_Land_21 d_Land_addGround_17 ?_
    refine dk_iload_n (k := 1) (i := 1) X 1 rfl rfl d_Land_addGround_20 ?_
    refine dk_iast X 2 (aC_2 g ad T S) (sC_2 g ad T S _ _) d_Land_addGround_21 hF (fun S1 hF => ?_)
    refine dk_aload_n (k := 0) (i := 0) X 0 rfl rfl d_Land_addGround_22 ?_
    refine dk_dup X rfl d_Land_addGround_23 ?_
    refine dk_get X q_Land 1 3 (by decide) (oC_Land g ad T S1) rfl f_Land_21 d_Land_addGround_24 ?_
    refine dk_dup_x1 X rfl rfl d_Land_addGround_27 ?_
    refine dk_iconst (v := 1) X (by decide) d_Land_addGround_28 ?_
    refine dk_iadd X d_Land_addGround_29 ?_
    refine dk_puti X q_Land 1 3 (by decide) (oC_Land g ad T S1) f_Land_21 rfl rfl (Nat.le_of_ble_eq_true rfl) (sC_Land_grounds g ad T S1 _) d_Land_addGround_30 hF (fun S2 hF => ?_)
    exact dk_reti hR hF d_Land_addGround_33
  · refine dk_bipush (v := -4) X (by decide) d_Land_addGround_9 ?_
    exact dk_reti hR hF d_Land_addGround_11
def F_Land_addGround (n T : Nat) (x1 : Int32) (S : dk_S) : Option (Int32 × dk_S) := B_Land_addGround_0 n T x1 S
theorem c_Land_addGround (l : Launch) (g : dk_G) (ad : Nat → Nat) (T n : Nat) (x1 : Int32)  (S : dk_S) : dk_Mi l g y_Land_addGround b_Land_addGround 2 rm_Land_addGround (some .int) [.ref (ad 1), .int x1] (wC g ad T) S (F_Land_addGround n T x1 S) := dk_enteri (by decide) (Nat.le_of_ble_eq_true rfl) (fun p e s m args below meth c A Q res hF X hR => (kb_Land_addGround_0 (n := n) X hR  hF))
abbrev b_Land_addBeast : ByteArray := prog_4_method_7_code
def y_Land_addBeast : MethodName := ⟨R_Land, "addBeast", "(II)I"⟩
theorem d_Land_addBeast_0 : decode b_Land_addBeast 0 = .ok (.aload_n 0, 1) := by decide +kernel
theorem d_Land_addBeast_1 : decode b_Land_addBeast 1 = .ok (.getfield 25, 3) := by decide +kernel
theorem d_Land_addBeast_4 : decode b_Land_addBeast 4 = .ok (.bipush 6, 2) := by decide +kernel
theorem d_Land_addBeast_6 : decode b_Land_addBeast 6 = .ok (.if_icmp .lt 6, 3) := by decide +kernel
theorem d_Land_addBeast_9 : decode b_Land_addBeast 9 = .ok (.bipush (-4), 2) := by decide +kernel
theorem d_Land_addBeast_11 : decode b_Land_addBeast 11 = .ok (.ireturn, 1) := by decide +kernel
theorem d_Land_addBeast_12 : decode b_Land_addBeast 12 = .ok (.aload_n 0, 1) := by decide +kernel
theorem d_Land_addBeast_13 : decode b_Land_addBeast 13 = .ok (.getfield 15, 3) := by decide +kernel
theorem d_Land_addBeast_16 : decode b_Land_addBeast 16 = .ok (.aload_n 0, 1) := by decide +kernel
theorem d_Land_addBeast_17 : decode b_Land_addBeast 17 = .ok (.getfield 25, 3) := by decide +kernel
theorem d_Land_addBeast_20 : decode b_Land_addBeast 20 = .ok (.iload_n 1, 1) := by decide +kernel
theorem d_Land_addBeast_21 : decode b_Land_addBeast 21 = .ok (.iastore, 1) := by decide +kernel
theorem d_Land_addBeast_22 : decode b_Land_addBeast 22 = .ok (.aload_n 0, 1) := by decide +kernel
theorem d_Land_addBeast_23 : decode b_Land_addBeast 23 = .ok (.getfield 18, 3) := by decide +kernel
theorem d_Land_addBeast_26 : decode b_Land_addBeast 26 = .ok (.aload_n 0, 1) := by decide +kernel
theorem d_Land_addBeast_27 : decode b_Land_addBeast 27 = .ok (.getfield 25, 3) := by decide +kernel
theorem d_Land_addBeast_30 : decode b_Land_addBeast 30 = .ok (.iload_n 2, 1) := by decide +kernel
theorem d_Land_addBeast_31 : decode b_Land_addBeast 31 = .ok (.iastore, 1) := by decide +kernel
theorem d_Land_addBeast_32 : decode b_Land_addBeast 32 = .ok (.aload_n 0, 1) := by decide +kernel
theorem d_Land_addBeast_33 : decode b_Land_addBeast 33 = .ok (.dup, 1) := by decide +kernel
theorem d_Land_addBeast_34 : decode b_Land_addBeast 34 = .ok (.getfield 25, 3) := by decide +kernel
theorem d_Land_addBeast_37 : decode b_Land_addBeast 37 = .ok (.dup_x1, 1) := by decide +kernel
theorem d_Land_addBeast_38 : decode b_Land_addBeast 38 = .ok (.iconst 1, 1) := by decide +kernel
theorem d_Land_addBeast_39 : decode b_Land_addBeast 39 = .ok (.iadd, 1) := by decide +kernel
theorem d_Land_addBeast_40 : decode b_Land_addBeast 40 = .ok (.putfield 25, 3) := by decide +kernel
theorem d_Land_addBeast_43 : decode b_Land_addBeast 43 = .ok (.ireturn, 1) := by decide +kernel
theorem v_Land_addBeast : dk_Yv y_Land_addBeast b_Land_addBeast 3 (some .int) 2 := ⟨dk_in (List.mem_of_getElem? (i := 430) (by decide +kernel)) rfl, dk_in (List.mem_of_getElem? (i := 431) (by decide +kernel)) rfl, dk_in (List.mem_of_getElem? (i := 67) (by decide +kernel)) rfl, dk_in (List.mem_of_getElem? (i := 432) (by decide +kernel)) rfl, by decide +kernel, by decide +kernel, by decide +kernel⟩
abbrev rm_Land_addBeast : Room := { frames := 0, cells := 0, slots := 0, locals := 0 }
theorem f_Land_15 : Cond.fieldLink R_Land 15 (T_Land 1).1 (T_Land 1).2.1 (T_Land 1).2.2.1 ∈ dk_tb := dk_in (List.mem_of_getElem? (i := 101) (by decide +kernel)) rfl
def B_Land_addBeast_0 (n T : Nat)  (x1 : Int32) (x2 : Int32) (S : dk_S) : Option (Int32 × dk_S) :=
  if (S 103 0) < (6 : Int32) then (dk_w S 3 6 (S 103 0) x1 fun S1 => dk_w S1 4 6 (S1 103 0) x2 fun S2 => dk_p S2 103 ((S2 103 0) + (1 : Int32)) fun S3 => some ((S2 103 0), S3)) else (some ((-4 : Int32), S))
set_option maxRecDepth 20000 in
theorem kb_Land_addBeast_0 {p : Program} {l : Launch} {e : Env} {s : State} {m : MethodId} {args : Array Value} {below : List Frame} {meth : Method} {c : Code} {g : dk_G} {A : Nat → Prop} {Q : State → Prop} {ad : Nat → Nat} {T : Nat} {n : Nat} {res : (Int32 × dk_S)} (X : dk_X p s m args meth c b_Land_addBeast 3 R_Land (some .int) g A) (hR : dk_Ri p l e rm_Land_addBeast s m args below meth c g A Q 3 b_Land_addBeast (some .int) (wC g ad T) res)  {x1 : Int32} {x2 : Int32} {S : dk_S}  (hF : B_Land_addBeast_0 n T  x1 x2 S = some res) : dk_J p l e rm_Land_addBeast s m args below meth c g A Q 3 0 0 0 [(0, .ref (ad 1)), (1, .int x1), (2, .int x2)] [] (wC g ad T S) := by
  unfold B_Land_addBeast_0 at hF
  refine dk_aload_n (k := 0) (i := 0) X 0 rfl rfl d_Land_addBeast_0 ?_
  refine dk_get X q_Land 1 4 (by decide) (oC_Land g ad T S) rfl f_Land_25 d_Land_addBeast_1 ?_
  refine dk_bipush (v := 6) X (by decide) d_Land_addBeast_4 ?_
  refine dk_icmp_lt (tgt := 12) X (by decide) d_Land_addBeast_6 hF (fun hF => ?_) (fun hF => ?_)
  · refine dk_aload_n (k := 0) (i := 0) X 0 rfl rfl d_Land_addBeast_12 ?_
    refine dk_get X q_Land 1 1 (by decide) (oC_Land g ad T S) rfl f_Land_15 d_Land_addBeast_13 ?_
    refine dk_aload_n (k := 0) (i := 0) X 0 rfl rfl d_Land_addBeast_16 ?_
    refine dk_get X q_Land 1 4 (by decide) (oC_Land g ad T S) rfl f_Land_25 d_Land_addBeast_17 ?_
    refine dk_iload_n (k := 1) (i := 1) X 1 rfl rfl d_Land_addBeast_20 ?_
    refine dk_iast X 3 (aC_3 g ad T S) (sC_3 g ad T S _ _) d_Land_addBeast_21 hF (fun S1 hF => ?_)
    refine dk_aload_n (k := 0) (i := 0) X 0 rfl rfl d_Land_addBeast_22 ?_
    refine dk_get X q_Land 1 2 (by decide) (oC_Land g ad T S1) rfl f_Land_18 d_Land_addBeast_23 ?_
    refine dk_aload_n (k := 0) (i := 0) X 0 rfl rfl d_Land_addBeast_26 ?_
    refine dk_get X q_Land 1 4 (by decide) (oC_Land g ad T S1) rfl f_Land_25 d_Land_addBeast_27 ?_
    refine dk_iload_n (k := 2) (i := 2) X 2 rfl rfl d_Land_addBeast_30 ?_
    refine dk_iast X 4 (aC_4 g ad T S1) (sC_4 g ad T S1 _ _) d_Land_addBeast_31 hF (fun S2 hF => ?_)
    refine dk_aload_n (k := 0) (i := 0) X 0 rfl rfl d_Land_addBeast_32 ?_
    refine dk_dup X rfl d_Land_addBeast_33 ?_
    refine dk_get X q_Land 1 4 (by decide) (oC_Land g ad T S2) rfl f_Land_25 d_Land_addBeast_34 ?_
    refine dk_dup_x1 X rfl rfl d_Land_addBeast_37 ?_
    refine dk_iconst (v := 1) X (by decide) d_Land_addBeast_38 ?_
    refine dk_iadd X d_Land_addBeast_39 ?_
    refine dk_puti X q_Land 1 4 (by decide) (oC_Land g ad T S2) f_Land_25 rfl rfl (Nat.le_of_ble_eq_true rfl) (sC_Land_beasts g ad T S2 _) d_Land_addBeast_40 hF (fun S3 hF => ?_)
    exact dk_reti hR hF d_Land_addBeast_43
  · refine dk_bipush (v := -4) X (by decide) d_Land_addBeast_9 ?_
    exact dk_reti hR hF d_Land_addBeast_11
def F_Land_addBeast (n T : Nat) (x1 : Int32) (x2 : Int32) (S : dk_S) : Option (Int32 × dk_S) := B_Land_addBeast_0 n T x1 x2 S
theorem c_Land_addBeast (l : Launch) (g : dk_G) (ad : Nat → Nat) (T n : Nat) (x1 : Int32) (x2 : Int32)  (S : dk_S) : dk_Mi l g y_Land_addBeast b_Land_addBeast 3 rm_Land_addBeast (some .int) [.ref (ad 1), .int x1, .int x2] (wC g ad T) S (F_Land_addBeast n T x1 x2 S) := dk_enteri (by decide) (Nat.le_of_ble_eq_true rfl) (fun p e s m args below meth c A Q res hF X hR => (kb_Land_addBeast_0 (n := n) X hR  hF))
abbrev b_Diary_has : ByteArray := prog_2_method_2_code
def y_Diary_has : MethodName := ⟨R_Diary, "has", "(I)Z"⟩
theorem d_Diary_has_0 : decode b_Diary_has 0 = .ok (.iload_n 1, 1) := by decide +kernel
theorem d_Diary_has_1 : decode b_Diary_has 1 = .ok (.ifCond .lt 15, 3) := by decide +kernel
theorem d_Diary_has_4 : decode b_Diary_has 4 = .ok (.iload_n 1, 1) := by decide +kernel
theorem d_Diary_has_5 : decode b_Diary_has 5 = .ok (.aload_n 0, 1) := by decide +kernel
theorem d_Diary_has_6 : decode b_Diary_has 6 = .ok (.getfield 30, 3) := by decide +kernel
theorem d_Diary_has_9 : decode b_Diary_has 9 = .ok (.if_icmp .ge 7, 3) := by decide +kernel
theorem d_Diary_has_12 : decode b_Diary_has 12 = .ok (.iconst 1, 1) := by decide +kernel
theorem d_Diary_has_13 : decode b_Diary_has 13 = .ok (.goto 4, 3) := by decide +kernel
theorem d_Diary_has_16 : decode b_Diary_has 16 = .ok (.iconst 0, 1) := by decide +kernel
theorem d_Diary_has_17 : decode b_Diary_has 17 = .ok (.ireturn, 1) := by decide +kernel
theorem v_Diary_has : dk_Yv y_Diary_has b_Diary_has 2 (some .boolean) 1 := ⟨dk_in (List.mem_of_getElem? (i := 462) (by decide +kernel)) rfl, dk_in (List.mem_of_getElem? (i := 463) (by decide +kernel)) rfl, dk_in (List.mem_of_getElem? (i := 68) (by decide +kernel)) rfl, dk_in (List.mem_of_getElem? (i := 464) (by decide +kernel)) rfl, by decide +kernel, by decide +kernel, by decide +kernel⟩
abbrev rm_Diary_has : Room := { frames := 0, cells := 0, slots := 0, locals := 0 }
theorem f_Diary_30 : Cond.fieldLink R_Diary 30 (T_Diary 6).1 (T_Diary 6).2.1 (T_Diary 6).2.2.1 ∈ dk_tb := dk_in (List.mem_of_getElem? (i := 149) (by decide +kernel)) rfl
def B_Diary_has_0 (n T : Nat)  (x1 : Int32) (S : dk_S) : Option (Int32 × dk_S) :=
  if x1 < 0 then (dk_b (0 : Int32) (some ((0 : Int32), S))) else (if (S 104 0) ≤ x1 then (dk_b (0 : Int32) (some ((0 : Int32), S))) else (dk_b (1 : Int32) (some ((1 : Int32), S))))
set_option maxRecDepth 20000 in
theorem kb_Diary_has_0 {p : Program} {l : Launch} {e : Env} {s : State} {m : MethodId} {args : Array Value} {below : List Frame} {meth : Method} {c : Code} {g : dk_G} {A : Nat → Prop} {Q : State → Prop} {ad : Nat → Nat} {T : Nat} {n : Nat} {res : (Int32 × dk_S)} (X : dk_X p s m args meth c b_Diary_has 2 R_Diary (some .boolean) g A) (hR : dk_Ri p l e rm_Diary_has s m args below meth c g A Q 2 b_Diary_has (some .boolean) (wC g ad T) res)  {x1 : Int32} {S : dk_S}  (hF : B_Diary_has_0 n T  x1 S = some res) : dk_J p l e rm_Diary_has s m args below meth c g A Q 2 0 0 0 [(0, .ref (ad 5)), (1, .int x1)] [] (wC g ad T S) := by
  unfold B_Diary_has_0 at hF
  refine dk_iload_n (k := 1) (i := 1) X 1 rfl rfl d_Diary_has_0 ?_
  refine dk_if_lt (tgt := 16) X (by decide) d_Diary_has_1 hF (fun hF => ?_) (fun hF => ?_)
  · refine dk_iconst (v := 0) X (by decide) d_Diary_has_16 ?_
    exact dk_retz hR hF d_Diary_has_17
  · refine dk_iload_n (k := 1) (i := 1) X 1 rfl rfl d_Diary_has_4 ?_
    refine dk_aload_n (k := 0) (i := 0) X 0 rfl rfl d_Diary_has_5 ?_
    refine dk_get X q_Diary 5 6 (by decide) (oC_Diary g ad T S) rfl f_Diary_30 d_Diary_has_6 ?_
    refine dk_icmp_ge (tgt := 16) X (by decide) d_Diary_has_9 hF (fun hF => ?_) (fun hF => ?_)
    · refine dk_iconst (v := 0) X (by decide) d_Diary_has_16 ?_
      exact dk_retz hR hF d_Diary_has_17
    · refine dk_iconst (v := 1) X (by decide) d_Diary_has_12 ?_
      refine dk_goto (tgt := 17) X (by decide) d_Diary_has_13 ?_
      exact dk_retz hR hF d_Diary_has_17
def F_Diary_has (n T : Nat) (x1 : Int32) (S : dk_S) : Option (Int32 × dk_S) := B_Diary_has_0 n T x1 S
theorem c_Diary_has (l : Launch) (g : dk_G) (ad : Nat → Nat) (T n : Nat) (x1 : Int32)  (S : dk_S) : dk_Mi l g y_Diary_has b_Diary_has 2 rm_Diary_has (some .boolean) [.ref (ad 5), .int x1] (wC g ad T) S (F_Diary_has n T x1 S) := dk_enteri (by decide) (Nat.le_of_ble_eq_true rfl) (fun p e s m args below meth c A Q res hF X hR => (kb_Diary_has_0 (n := n) X hR  hF))
abbrev b_Diary_reaches : ByteArray := prog_2_method_3_code
def y_Diary_reaches : MethodName := ⟨R_Diary, "reaches", "(I)Z"⟩
theorem d_Diary_reaches_0 : decode b_Diary_reaches 0 = .ok (.iload_n 1, 1) := by decide +kernel
theorem d_Diary_reaches_1 : decode b_Diary_reaches 1 = .ok (.ifCond .lt 15, 3) := by decide +kernel
theorem d_Diary_reaches_4 : decode b_Diary_reaches 4 = .ok (.iload_n 1, 1) := by decide +kernel
theorem d_Diary_reaches_5 : decode b_Diary_reaches 5 = .ok (.aload_n 0, 1) := by decide +kernel
theorem d_Diary_reaches_6 : decode b_Diary_reaches 6 = .ok (.getfield 30, 3) := by decide +kernel
theorem d_Diary_reaches_9 : decode b_Diary_reaches 9 = .ok (.if_icmp .gt 7, 3) := by decide +kernel
theorem d_Diary_reaches_12 : decode b_Diary_reaches 12 = .ok (.iconst 1, 1) := by decide +kernel
theorem d_Diary_reaches_13 : decode b_Diary_reaches 13 = .ok (.goto 4, 3) := by decide +kernel
theorem d_Diary_reaches_16 : decode b_Diary_reaches 16 = .ok (.iconst 0, 1) := by decide +kernel
theorem d_Diary_reaches_17 : decode b_Diary_reaches 17 = .ok (.ireturn, 1) := by decide +kernel
theorem v_Diary_reaches : dk_Yv y_Diary_reaches b_Diary_reaches 2 (some .boolean) 1 := ⟨dk_in (List.mem_of_getElem? (i := 682) (by decide +kernel)) rfl, dk_in (List.mem_of_getElem? (i := 683) (by decide +kernel)) rfl, dk_in (List.mem_of_getElem? (i := 68) (by decide +kernel)) rfl, dk_in (List.mem_of_getElem? (i := 684) (by decide +kernel)) rfl, by decide +kernel, by decide +kernel, by decide +kernel⟩
abbrev rm_Diary_reaches : Room := { frames := 0, cells := 0, slots := 0, locals := 0 }
def B_Diary_reaches_0 (n T : Nat)  (x1 : Int32) (S : dk_S) : Option (Int32 × dk_S) :=
  if x1 < 0 then (dk_b (0 : Int32) (some ((0 : Int32), S))) else (if (S 104 0) < x1 then (dk_b (0 : Int32) (some ((0 : Int32), S))) else (dk_b (1 : Int32) (some ((1 : Int32), S))))
set_option maxRecDepth 20000 in
theorem kb_Diary_reaches_0 {p : Program} {l : Launch} {e : Env} {s : State} {m : MethodId} {args : Array Value} {below : List Frame} {meth : Method} {c : Code} {g : dk_G} {A : Nat → Prop} {Q : State → Prop} {ad : Nat → Nat} {T : Nat} {n : Nat} {res : (Int32 × dk_S)} (X : dk_X p s m args meth c b_Diary_reaches 2 R_Diary (some .boolean) g A) (hR : dk_Ri p l e rm_Diary_reaches s m args below meth c g A Q 2 b_Diary_reaches (some .boolean) (wC g ad T) res)  {x1 : Int32} {S : dk_S}  (hF : B_Diary_reaches_0 n T  x1 S = some res) : dk_J p l e rm_Diary_reaches s m args below meth c g A Q 2 0 0 0 [(0, .ref (ad 5)), (1, .int x1)] [] (wC g ad T S) := by
  unfold B_Diary_reaches_0 at hF
  refine dk_iload_n (k := 1) (i := 1) X 1 rfl rfl d_Diary_reaches_0 ?_
  refine dk_if_lt (tgt := 16) X (by decide) d_Diary_reaches_1 hF (fun hF => ?_) (fun hF => ?_)
  · refine dk_iconst (v := 0) X (by decide) d_Diary_reaches_16 ?_
    exact dk_retz hR hF d_Diary_reaches_17
  · refine dk_iload_n (k := 1) (i := 1) X 1 rfl rfl d_Diary_reaches_4 ?_
    refine dk_aload_n (k := 0) (i := 0) X 0 rfl rfl d_Diary_reaches_5 ?_
    refine dk_get X q_Diary 5 6 (by decide) (oC_Diary g ad T S) rfl f_Diary_30 d_Diary_reaches_6 ?_
    refine dk_icmp_gt (tgt := 16) X (by decide) d_Diary_reaches_9 hF (fun hF => ?_) (fun hF => ?_)
    · refine dk_iconst (v := 0) X (by decide) d_Diary_reaches_16 ?_
      exact dk_retz hR hF d_Diary_reaches_17
    · refine dk_iconst (v := 1) X (by decide) d_Diary_reaches_12 ?_
      refine dk_goto (tgt := 17) X (by decide) d_Diary_reaches_13 ?_
      exact dk_retz hR hF d_Diary_reaches_17
def F_Diary_reaches (n T : Nat) (x1 : Int32) (S : dk_S) : Option (Int32 × dk_S) := B_Diary_reaches_0 n T x1 S
theorem c_Diary_reaches (l : Launch) (g : dk_G) (ad : Nat → Nat) (T n : Nat) (x1 : Int32)  (S : dk_S) : dk_Mi l g y_Diary_reaches b_Diary_reaches 2 rm_Diary_reaches (some .boolean) [.ref (ad 5), .int x1] (wC g ad T) S (F_Diary_reaches n T x1 S) := dk_enteri (by decide) (Nat.le_of_ble_eq_true rfl) (fun p e s m args below meth c A Q res hF X hR => (kb_Diary_reaches_0 (n := n) X hR  hF))
abbrev b_Diary_lastTime : ByteArray := prog_2_method_4_code
def y_Diary_lastTime : MethodName := ⟨R_Diary, "lastTime", "()I"⟩
theorem d_Diary_lastTime_0 : decode b_Diary_lastTime 0 = .ok (.aload_n 0, 1) := by decide +kernel
theorem d_Diary_lastTime_1 : decode b_Diary_lastTime 1 = .ok (.getfield 30, 3) := by decide +kernel
theorem d_Diary_lastTime_4 : decode b_Diary_lastTime 4 = .ok (.ifCond .ne 7, 3) := by decide +kernel
theorem d_Diary_lastTime_7 : decode b_Diary_lastTime 7 = .ok (.iconst 0, 1) := by decide +kernel
theorem d_Diary_lastTime_8 : decode b_Diary_lastTime 8 = .ok (.goto 14, 3) := by decide +kernel
theorem d_Diary_lastTime_11 : decode b_Diary_lastTime 11 = .ok (.aload_n 0, 1) := by decide +kernel
theorem d_Diary_lastTime_12 : decode b_Diary_lastTime 12 = .ok (.getfield 9, 3) := by decide +kernel
theorem d_Diary_lastTime_15 : decode b_Diary_lastTime 15 = .ok (.aload_n 0, 1) := by decide +kernel
theorem d_Diary_lastTime_16 : decode b_Diary_lastTime 16 = .ok (.getfield 30, 3) := by decide +kernel
theorem d_Diary_lastTime_19 : decode b_Diary_lastTime 19 = .ok (.iconst 1, 1) := by decide +kernel
theorem d_Diary_lastTime_20 : decode b_Diary_lastTime 20 = .ok (.isub, 1) := by decide +kernel
theorem d_Diary_lastTime_21 : decode b_Diary_lastTime 21 = .ok (.iaload, 1) := by decide +kernel
theorem d_Diary_lastTime_22 : decode b_Diary_lastTime 22 = .ok (.ireturn, 1) := by decide +kernel
theorem v_Diary_lastTime : dk_Yv y_Diary_lastTime b_Diary_lastTime 1 (some .int) 0 := ⟨dk_in (List.mem_of_getElem? (i := 442) (by decide +kernel)) rfl, dk_in (List.mem_of_getElem? (i := 443) (by decide +kernel)) rfl, dk_in (List.mem_of_getElem? (i := 68) (by decide +kernel)) rfl, dk_in (List.mem_of_getElem? (i := 444) (by decide +kernel)) rfl, by decide +kernel, by decide +kernel, by decide +kernel⟩
abbrev rm_Diary_lastTime : Room := { frames := 0, cells := 0, slots := 0, locals := 0 }
theorem f_Diary_9 : Cond.fieldLink R_Diary 9 (T_Diary 0).1 (T_Diary 0).2.1 (T_Diary 0).2.2.1 ∈ dk_tb := dk_in (List.mem_of_getElem? (i := 130) (by decide +kernel)) rfl
def B_Diary_lastTime_0 (n T : Nat)   (S : dk_S) : Option (Int32 × dk_S) :=
  if ¬ (S 104 0) = 0 then (dk_r 32 (S 6) ((S 104 0) - (1 : Int32)) fun v1 => some (v1, S)) else (some ((0 : Int32), S))
set_option maxRecDepth 20000 in
theorem kb_Diary_lastTime_0 {p : Program} {l : Launch} {e : Env} {s : State} {m : MethodId} {args : Array Value} {below : List Frame} {meth : Method} {c : Code} {g : dk_G} {A : Nat → Prop} {Q : State → Prop} {ad : Nat → Nat} {T : Nat} {n : Nat} {res : (Int32 × dk_S)} (X : dk_X p s m args meth c b_Diary_lastTime 1 R_Diary (some .int) g A) (hR : dk_Ri p l e rm_Diary_lastTime s m args below meth c g A Q 1 b_Diary_lastTime (some .int) (wC g ad T) res)   {S : dk_S}  (hF : B_Diary_lastTime_0 n T   S = some res) : dk_J p l e rm_Diary_lastTime s m args below meth c g A Q 1 0 0 0 [(0, .ref (ad 5))] [] (wC g ad T S) := by
  unfold B_Diary_lastTime_0 at hF
  refine dk_aload_n (k := 0) (i := 0) X 0 rfl rfl d_Diary_lastTime_0 ?_
  refine dk_get X q_Diary 5 6 (by decide) (oC_Diary g ad T S) rfl f_Diary_30 d_Diary_lastTime_1 ?_
  refine dk_if_ne (tgt := 11) X (by decide) d_Diary_lastTime_4 hF (fun hF => ?_) (fun hF => ?_)
  · refine dk_aload_n (k := 0) (i := 0) X 0 rfl rfl d_Diary_lastTime_11 ?_
    refine dk_get X q_Diary 5 0 (by decide) (oC_Diary g ad T S) rfl f_Diary_9 d_Diary_lastTime_12 ?_
    refine dk_aload_n (k := 0) (i := 0) X 0 rfl rfl d_Diary_lastTime_15 ?_
    refine dk_get X q_Diary 5 6 (by decide) (oC_Diary g ad T S) rfl f_Diary_30 d_Diary_lastTime_16 ?_
    refine dk_iconst (v := 1) X (by decide) d_Diary_lastTime_19 ?_
    refine dk_isub X d_Diary_lastTime_20 ?_
    refine dk_iald X 6 (aC_6 g ad T S) d_Diary_lastTime_21 hF (fun v1 hF => ?_)
    exact dk_reti hR hF d_Diary_lastTime_22
  · refine dk_iconst (v := 0) X (by decide) d_Diary_lastTime_7 ?_
    refine dk_goto (tgt := 22) X (by decide) d_Diary_lastTime_8 ?_
    exact dk_reti hR hF d_Diary_lastTime_22
def F_Diary_lastTime (n T : Nat)  (S : dk_S) : Option (Int32 × dk_S) := B_Diary_lastTime_0 n T  S
theorem c_Diary_lastTime (l : Launch) (g : dk_G) (ad : Nat → Nat) (T n : Nat)   (S : dk_S) : dk_Mi l g y_Diary_lastTime b_Diary_lastTime 1 rm_Diary_lastTime (some .int) [.ref (ad 5)] (wC g ad T) S (F_Diary_lastTime n T  S) := dk_enteri (by decide) (Nat.le_of_ble_eq_true rfl) (fun p e s m args below meth c A Q res hF X hR => (kb_Diary_lastTime_0 (n := n) X hR  hF))
abbrev b_Diary_countUnsure : ByteArray := prog_2_method_5_code
def y_Diary_countUnsure : MethodName := ⟨R_Diary, "countUnsure", "()I"⟩
theorem d_Diary_countUnsure_0 : decode b_Diary_countUnsure 0 = .ok (.iconst 0, 1) := by decide +kernel
theorem d_Diary_countUnsure_1 : decode b_Diary_countUnsure 1 = .ok (.istore_n 1, 1) := by decide +kernel
theorem d_Diary_countUnsure_2 : decode b_Diary_countUnsure 2 = .ok (.iconst 0, 1) := by decide +kernel
theorem d_Diary_countUnsure_3 : decode b_Diary_countUnsure 3 = .ok (.istore_n 2, 1) := by decide +kernel
theorem d_Diary_countUnsure_4 : decode b_Diary_countUnsure 4 = .ok (.iload_n 2, 1) := by decide +kernel
theorem d_Diary_countUnsure_5 : decode b_Diary_countUnsure 5 = .ok (.aload_n 0, 1) := by decide +kernel
theorem d_Diary_countUnsure_6 : decode b_Diary_countUnsure 6 = .ok (.getfield 30, 3) := by decide +kernel
theorem d_Diary_countUnsure_9 : decode b_Diary_countUnsure 9 = .ok (.if_icmp .ge 18, 3) := by decide +kernel
theorem d_Diary_countUnsure_12 : decode b_Diary_countUnsure 12 = .ok (.iload_n 1, 1) := by decide +kernel
theorem d_Diary_countUnsure_13 : decode b_Diary_countUnsure 13 = .ok (.aload_n 0, 1) := by decide +kernel
theorem d_Diary_countUnsure_14 : decode b_Diary_countUnsure 14 = .ok (.getfield 27, 3) := by decide +kernel
theorem d_Diary_countUnsure_17 : decode b_Diary_countUnsure 17 = .ok (.iload_n 2, 1) := by decide +kernel
theorem d_Diary_countUnsure_18 : decode b_Diary_countUnsure 18 = .ok (.iaload, 1) := by decide +kernel
theorem d_Diary_countUnsure_19 : decode b_Diary_countUnsure 19 = .ok (.iadd, 1) := by decide +kernel
theorem d_Diary_countUnsure_20 : decode b_Diary_countUnsure 20 = .ok (.istore_n 1, 1) := by decide +kernel
theorem d_Diary_countUnsure_21 : decode b_Diary_countUnsure 21 = .ok (.iinc 2 1, 3) := by decide +kernel
theorem d_Diary_countUnsure_24 : decode b_Diary_countUnsure 24 = .ok (.goto (-20), 3) := by decide +kernel
theorem d_Diary_countUnsure_27 : decode b_Diary_countUnsure 27 = .ok (.iload_n 1, 1) := by decide +kernel
theorem d_Diary_countUnsure_28 : decode b_Diary_countUnsure 28 = .ok (.ireturn, 1) := by decide +kernel
theorem v_Diary_countUnsure : dk_Yv y_Diary_countUnsure b_Diary_countUnsure 3 (some .int) 0 := ⟨dk_in (List.mem_of_getElem? (i := 466) (by decide +kernel)) rfl, dk_in (List.mem_of_getElem? (i := 467) (by decide +kernel)) rfl, dk_in (List.mem_of_getElem? (i := 68) (by decide +kernel)) rfl, dk_in (List.mem_of_getElem? (i := 468) (by decide +kernel)) rfl, by decide +kernel, by decide +kernel, by decide +kernel⟩
abbrev rm_Diary_countUnsure : Room := { frames := 0, cells := 0, slots := 0, locals := 0 }
theorem f_Diary_27 : Cond.fieldLink R_Diary 27 (T_Diary 5).1 (T_Diary 5).2.1 (T_Diary 5).2.2.1 ∈ dk_tb := dk_in (List.mem_of_getElem? (i := 145) (by decide +kernel)) rfl
def B_Diary_countUnsure_4b (n T : Nat) (k4 : Int32 → Int32 → dk_S → Option (Int32 × dk_S)) (x1 : Int32) (x2 : Int32) (S : dk_S) : Option (Int32 × dk_S) :=
  if (S 104 0) ≤ x2 then (some (x1, S)) else (dk_r 32 (S 11) x2 fun v1 => k4 (x1 + v1) (x2 + (1 : Int32)) S)
set_option maxRecDepth 20000 in
theorem kb_Diary_countUnsure_4b {p : Program} {l : Launch} {e : Env} {s : State} {m : MethodId} {args : Array Value} {below : List Frame} {meth : Method} {c : Code} {g : dk_G} {A : Nat → Prop} {Q : State → Prop} {ad : Nat → Nat} {T : Nat} {n : Nat} {res : (Int32 × dk_S)} (X : dk_X p s m args meth c b_Diary_countUnsure 3 R_Diary (some .int) g A) (hR : dk_Ri p l e rm_Diary_countUnsure s m args below meth c g A Q 3 b_Diary_countUnsure (some .int) (wC g ad T) res) {k4 : Int32 → Int32 → dk_S → Option (Int32 × dk_S)} (hk4 : ∀ (x1 : Int32) (x2 : Int32)  (S : dk_S), k4 x1 x2 S = some res → dk_J p l e rm_Diary_countUnsure s m args below meth c g A Q 3 0 0 4 [(0, .ref (ad 5)), (1, .int x1), (2, .int x2)] [] (wC g ad T S)) {x1 : Int32} {x2 : Int32} {S : dk_S}  (hF : B_Diary_countUnsure_4b n T k4 x1 x2 S = some res) : dk_J p l e rm_Diary_countUnsure s m args below meth c g A Q 3 0 0 4 [(0, .ref (ad 5)), (1, .int x1), (2, .int x2)] [] (wC g ad T S) := by
  unfold B_Diary_countUnsure_4b at hF
  refine dk_iload_n (k := 2) (i := 2) X 2 rfl rfl d_Diary_countUnsure_4 ?_
  refine dk_aload_n (k := 0) (i := 0) X 0 rfl rfl d_Diary_countUnsure_5 ?_
  refine dk_get X q_Diary 5 6 (by decide) (oC_Diary g ad T S) rfl f_Diary_30 d_Diary_countUnsure_6 ?_
  refine dk_icmp_ge (tgt := 27) X (by decide) d_Diary_countUnsure_9 hF (fun hF => ?_) (fun hF => ?_)
  · refine dk_iload_n (k := 1) (i := 1) X 1 rfl rfl d_Diary_countUnsure_27 ?_
    exact dk_reti hR hF d_Diary_countUnsure_28
  · refine dk_iload_n (k := 1) (i := 1) X 1 rfl rfl d_Diary_countUnsure_12 ?_
    refine dk_aload_n (k := 0) (i := 0) X 0 rfl rfl d_Diary_countUnsure_13 ?_
    refine dk_get X q_Diary 5 5 (by decide) (oC_Diary g ad T S) rfl f_Diary_27 d_Diary_countUnsure_14 ?_
    refine dk_iload_n (k := 2) (i := 2) X 2 rfl rfl d_Diary_countUnsure_17 ?_
    refine dk_iald X 11 (aC_11 g ad T S) d_Diary_countUnsure_18 hF (fun v1 hF => ?_)
    refine dk_iadd X d_Diary_countUnsure_19 ?_
    refine dk_istore_n (k := 1) (i := 1) (lv' := [(1, .int (x1 + v1)), (0, .ref (ad 5)), (2, .int x2)]) X rfl (by decide) rfl d_Diary_countUnsure_20 ?_
    refine dk_iinc (i := 2) (v := (x2 + (1 : Int32))) (lv' := [(2, .int (x2 + (1 : Int32))), (1, .int (x1 + v1)), (0, .ref (ad 5))]) X 2 rfl (dk_ii _ (by decide)) (by decide) rfl d_Diary_countUnsure_21 ?_
    refine dk_goto (tgt := 4) X (by decide) d_Diary_countUnsure_24 ?_
    exact dk_sub [2, 1, 0] rfl (hk4 (x1 + v1) (x2 + (1 : Int32)) S hF)
def B_Diary_countUnsure_4 (n T : Nat)  : Nat → Int32 → Int32 → dk_S → Option (Int32 × dk_S)
  | 0 => fun _ _ _ => none
  | q + 1 => fun x1 x2 S => B_Diary_countUnsure_4b n T (fun x1 x2 S => B_Diary_countUnsure_4 n T  q x1 x2 S) x1 x2 S
theorem kb_Diary_countUnsure_4 {p : Program} {l : Launch} {e : Env} {s : State} {m : MethodId} {args : Array Value} {below : List Frame} {meth : Method} {c : Code} {g : dk_G} {A : Nat → Prop} {Q : State → Prop} {ad : Nat → Nat} {T : Nat} {n : Nat} {res : (Int32 × dk_S)} (X : dk_X p s m args meth c b_Diary_countUnsure 3 R_Diary (some .int) g A) (hR : dk_Ri p l e rm_Diary_countUnsure s m args below meth c g A Q 3 b_Diary_countUnsure (some .int) (wC g ad T) res)  : ∀ (q : Nat) (x1 : Int32) (x2 : Int32)  (S : dk_S), B_Diary_countUnsure_4 n T  q x1 x2 S = some res → dk_J p l e rm_Diary_countUnsure s m args below meth c g A Q 3 0 0 4 [(0, .ref (ad 5)), (1, .int x1), (2, .int x2)] [] (wC g ad T S) := by
  intro q
  induction q with
  | zero => intro x1 x2  S hF; cases hF
  | succ q ih => intro x1 x2  S hF; exact kb_Diary_countUnsure_4b (n := n) X hR ih  hF
def B_Diary_countUnsure_0 (n T : Nat)   (S : dk_S) : Option (Int32 × dk_S) :=
  B_Diary_countUnsure_4 n T  n (0 : Int32) (0 : Int32) S
set_option maxRecDepth 20000 in
theorem kb_Diary_countUnsure_0 {p : Program} {l : Launch} {e : Env} {s : State} {m : MethodId} {args : Array Value} {below : List Frame} {meth : Method} {c : Code} {g : dk_G} {A : Nat → Prop} {Q : State → Prop} {ad : Nat → Nat} {T : Nat} {n : Nat} {res : (Int32 × dk_S)} (X : dk_X p s m args meth c b_Diary_countUnsure 3 R_Diary (some .int) g A) (hR : dk_Ri p l e rm_Diary_countUnsure s m args below meth c g A Q 3 b_Diary_countUnsure (some .int) (wC g ad T) res)   {S : dk_S}  (hF : B_Diary_countUnsure_0 n T   S = some res) : dk_J p l e rm_Diary_countUnsure s m args below meth c g A Q 3 0 0 0 [(0, .ref (ad 5))] [] (wC g ad T S) := by
  unfold B_Diary_countUnsure_0 at hF
  refine dk_iconst (v := 0) X (by decide) d_Diary_countUnsure_0 ?_
  refine dk_istore_n (k := 1) (i := 1) (lv' := [(1, .int (0 : Int32)), (0, .ref (ad 5))]) X rfl (by decide) rfl d_Diary_countUnsure_1 ?_
  refine dk_iconst (v := 0) X (by decide) d_Diary_countUnsure_2 ?_
  refine dk_istore_n (k := 2) (i := 2) (lv' := [(2, .int (0 : Int32)), (1, .int (0 : Int32)), (0, .ref (ad 5))]) X rfl (by decide) rfl d_Diary_countUnsure_3 ?_
  exact dk_sub [2, 1, 0] rfl (kb_Diary_countUnsure_4 (n := n) X hR  n (0 : Int32) (0 : Int32) S hF)
def F_Diary_countUnsure (n T : Nat)  (S : dk_S) : Option (Int32 × dk_S) := B_Diary_countUnsure_0 n T  S
theorem c_Diary_countUnsure (l : Launch) (g : dk_G) (ad : Nat → Nat) (T n : Nat)   (S : dk_S) : dk_Mi l g y_Diary_countUnsure b_Diary_countUnsure 3 rm_Diary_countUnsure (some .int) [.ref (ad 5)] (wC g ad T) S (F_Diary_countUnsure n T  S) := dk_enteri (by decide) (Nat.le_of_ble_eq_true rfl) (fun p e s m args below meth c A Q res hF X hR => (kb_Diary_countUnsure_0 (n := n) X hR  hF))
abbrev b_Diary_add : ByteArray := prog_2_method_6_code
def y_Diary_add : MethodName := ⟨R_Diary, "add", "(IIIII)I"⟩
theorem d_Diary_add_0 : decode b_Diary_add 0 = .ok (.aload_n 0, 1) := by decide +kernel
theorem d_Diary_add_1 : decode b_Diary_add 1 = .ok (.getfield 30, 3) := by decide +kernel
theorem d_Diary_add_4 : decode b_Diary_add 4 = .ok (.bipush 32, 2) := by decide +kernel
theorem d_Diary_add_6 : decode b_Diary_add 6 = .ok (.if_icmp .lt 6, 3) := by decide +kernel
theorem d_Diary_add_9 : decode b_Diary_add 9 = .ok (.bipush (-4), 2) := by decide +kernel
theorem d_Diary_add_11 : decode b_Diary_add 11 = .ok (.ireturn, 1) := by decide +kernel
theorem d_Diary_add_12 : decode b_Diary_add 12 = .ok (.aload_n 0, 1) := by decide +kernel
theorem d_Diary_add_13 : decode b_Diary_add 13 = .ok (.getfield 9, 3) := by decide +kernel
theorem d_Diary_add_16 : decode b_Diary_add 16 = .ok (.aload_n 0, 1) := by decide +kernel
theorem d_Diary_add_17 : decode b_Diary_add 17 = .ok (.getfield 30, 3) := by decide +kernel
theorem d_Diary_add_20 : decode b_Diary_add 20 = .ok (.iload_n 1, 1) := by decide +kernel
theorem d_Diary_add_21 : decode b_Diary_add 21 = .ok (.iastore, 1) := by decide +kernel
theorem d_Diary_add_22 : decode b_Diary_add 22 = .ok (.aload_n 0, 1) := by decide +kernel
theorem d_Diary_add_23 : decode b_Diary_add 23 = .ok (.getfield 15, 3) := by decide +kernel
theorem d_Diary_add_26 : decode b_Diary_add 26 = .ok (.aload_n 0, 1) := by decide +kernel
theorem d_Diary_add_27 : decode b_Diary_add 27 = .ok (.getfield 30, 3) := by decide +kernel
theorem d_Diary_add_30 : decode b_Diary_add 30 = .ok (.iload_n 2, 1) := by decide +kernel
theorem d_Diary_add_31 : decode b_Diary_add 31 = .ok (.iastore, 1) := by decide +kernel
theorem d_Diary_add_32 : decode b_Diary_add 32 = .ok (.aload_n 0, 1) := by decide +kernel
theorem d_Diary_add_33 : decode b_Diary_add 33 = .ok (.getfield 18, 3) := by decide +kernel
theorem d_Diary_add_36 : decode b_Diary_add 36 = .ok (.aload_n 0, 1) := by decide +kernel
theorem d_Diary_add_37 : decode b_Diary_add 37 = .ok (.getfield 30, 3) := by decide +kernel
theorem d_Diary_add_40 : decode b_Diary_add 40 = .ok (.iload_n 3, 1) := by decide +kernel
theorem d_Diary_add_41 : decode b_Diary_add 41 = .ok (.iastore, 1) := by decide +kernel
theorem d_Diary_add_42 : decode b_Diary_add 42 = .ok (.aload_n 0, 1) := by decide +kernel
theorem d_Diary_add_43 : decode b_Diary_add 43 = .ok (.getfield 21, 3) := by decide +kernel
theorem d_Diary_add_46 : decode b_Diary_add 46 = .ok (.aload_n 0, 1) := by decide +kernel
theorem d_Diary_add_47 : decode b_Diary_add 47 = .ok (.getfield 30, 3) := by decide +kernel
theorem d_Diary_add_50 : decode b_Diary_add 50 = .ok (.iload 4, 2) := by decide +kernel
theorem d_Diary_add_52 : decode b_Diary_add 52 = .ok (.iastore, 1) := by decide +kernel
theorem d_Diary_add_53 : decode b_Diary_add 53 = .ok (.aload_n 0, 1) := by decide +kernel
theorem d_Diary_add_54 : decode b_Diary_add 54 = .ok (.getfield 24, 3) := by decide +kernel
theorem d_Diary_add_57 : decode b_Diary_add 57 = .ok (.aload_n 0, 1) := by decide +kernel
theorem d_Diary_add_58 : decode b_Diary_add 58 = .ok (.getfield 30, 3) := by decide +kernel
theorem d_Diary_add_61 : decode b_Diary_add 61 = .ok (.iload 5, 2) := by decide +kernel
theorem d_Diary_add_63 : decode b_Diary_add 63 = .ok (.iastore, 1) := by decide +kernel
theorem d_Diary_add_64 : decode b_Diary_add 64 = .ok (.aload_n 0, 1) := by decide +kernel
theorem d_Diary_add_65 : decode b_Diary_add 65 = .ok (.getfield 27, 3) := by decide +kernel
theorem d_Diary_add_68 : decode b_Diary_add 68 = .ok (.aload_n 0, 1) := by decide +kernel
theorem d_Diary_add_69 : decode b_Diary_add 69 = .ok (.getfield 30, 3) := by decide +kernel
theorem d_Diary_add_72 : decode b_Diary_add 72 = .ok (.iconst 0, 1) := by decide +kernel
theorem d_Diary_add_73 : decode b_Diary_add 73 = .ok (.iastore, 1) := by decide +kernel
theorem d_Diary_add_74 : decode b_Diary_add 74 = .ok (.aload_n 0, 1) := by decide +kernel
theorem d_Diary_add_75 : decode b_Diary_add 75 = .ok (.dup, 1) := by decide +kernel
theorem d_Diary_add_76 : decode b_Diary_add 76 = .ok (.getfield 30, 3) := by decide +kernel
theorem d_Diary_add_79 : decode b_Diary_add 79 = .ok (.dup_x1, 1) := by decide +kernel
theorem d_Diary_add_80 : decode b_Diary_add 80 = .ok (.iconst 1, 1) := by decide +kernel
theorem d_Diary_add_81 : decode b_Diary_add 81 = .ok (.iadd, 1) := by decide +kernel
theorem d_Diary_add_82 : decode b_Diary_add 82 = .ok (.putfield 30, 3) := by decide +kernel
theorem d_Diary_add_85 : decode b_Diary_add 85 = .ok (.ireturn, 1) := by decide +kernel
theorem v_Diary_add : dk_Yv y_Diary_add b_Diary_add 6 (some .int) 5 := ⟨dk_in (List.mem_of_getElem? (i := 446) (by decide +kernel)) rfl, dk_in (List.mem_of_getElem? (i := 447) (by decide +kernel)) rfl, dk_in (List.mem_of_getElem? (i := 68) (by decide +kernel)) rfl, dk_in (List.mem_of_getElem? (i := 448) (by decide +kernel)) rfl, by decide +kernel, by decide +kernel, by decide +kernel⟩
abbrev rm_Diary_add : Room := { frames := 0, cells := 0, slots := 0, locals := 0 }
theorem f_Diary_15 : Cond.fieldLink R_Diary 15 (T_Diary 1).1 (T_Diary 1).2.1 (T_Diary 1).2.2.1 ∈ dk_tb := dk_in (List.mem_of_getElem? (i := 133) (by decide +kernel)) rfl
theorem f_Diary_18 : Cond.fieldLink R_Diary 18 (T_Diary 2).1 (T_Diary 2).2.1 (T_Diary 2).2.2.1 ∈ dk_tb := dk_in (List.mem_of_getElem? (i := 136) (by decide +kernel)) rfl
theorem f_Diary_21 : Cond.fieldLink R_Diary 21 (T_Diary 3).1 (T_Diary 3).2.1 (T_Diary 3).2.2.1 ∈ dk_tb := dk_in (List.mem_of_getElem? (i := 139) (by decide +kernel)) rfl
theorem f_Diary_24 : Cond.fieldLink R_Diary 24 (T_Diary 4).1 (T_Diary 4).2.1 (T_Diary 4).2.2.1 ∈ dk_tb := dk_in (List.mem_of_getElem? (i := 142) (by decide +kernel)) rfl
def B_Diary_add_0 (n T : Nat)  (x1 : Int32) (x2 : Int32) (x3 : Int32) (x4 : Int32) (x5 : Int32) (S : dk_S) : Option (Int32 × dk_S) :=
  if (S 104 0) < (32 : Int32) then (dk_w S 6 32 (S 104 0) x1 fun S1 => dk_w S1 7 32 (S1 104 0) x2 fun S2 => dk_w S2 8 32 (S2 104 0) x3 fun S3 => dk_w S3 9 32 (S3 104 0) x4 fun S4 => dk_w S4 10 32 (S4 104 0) x5 fun S5 => dk_w S5 11 32 (S5 104 0) (0 : Int32) fun S6 => dk_p S6 104 ((S6 104 0) + (1 : Int32)) fun S7 => some ((S6 104 0), S7)) else (some ((-4 : Int32), S))
set_option maxRecDepth 20000 in
theorem kb_Diary_add_0 {p : Program} {l : Launch} {e : Env} {s : State} {m : MethodId} {args : Array Value} {below : List Frame} {meth : Method} {c : Code} {g : dk_G} {A : Nat → Prop} {Q : State → Prop} {ad : Nat → Nat} {T : Nat} {n : Nat} {res : (Int32 × dk_S)} (X : dk_X p s m args meth c b_Diary_add 6 R_Diary (some .int) g A) (hR : dk_Ri p l e rm_Diary_add s m args below meth c g A Q 6 b_Diary_add (some .int) (wC g ad T) res)  {x1 : Int32} {x2 : Int32} {x3 : Int32} {x4 : Int32} {x5 : Int32} {S : dk_S}  (hF : B_Diary_add_0 n T  x1 x2 x3 x4 x5 S = some res) : dk_J p l e rm_Diary_add s m args below meth c g A Q 6 0 0 0 [(0, .ref (ad 5)), (1, .int x1), (2, .int x2), (3, .int x3), (4, .int x4), (5, .int x5)] [] (wC g ad T S) := by
  unfold B_Diary_add_0 at hF
  refine dk_aload_n (k := 0) (i := 0) X 0 rfl rfl d_Diary_add_0 ?_
  refine dk_get X q_Diary 5 6 (by decide) (oC_Diary g ad T S) rfl f_Diary_30 d_Diary_add_1 ?_
  refine dk_bipush (v := 32) X (by decide) d_Diary_add_4 ?_
  refine dk_icmp_lt (tgt := 12) X (by decide) d_Diary_add_6 hF (fun hF => ?_) (fun hF => ?_)
  · refine dk_aload_n (k := 0) (i := 0) X 0 rfl rfl d_Diary_add_12 ?_
    refine dk_get X q_Diary 5 0 (by decide) (oC_Diary g ad T S) rfl f_Diary_9 d_Diary_add_13 ?_
    refine dk_aload_n (k := 0) (i := 0) X 0 rfl rfl d_Diary_add_16 ?_
    refine dk_get X q_Diary 5 6 (by decide) (oC_Diary g ad T S) rfl f_Diary_30 d_Diary_add_17 ?_
    refine dk_iload_n (k := 1) (i := 1) X 1 rfl rfl d_Diary_add_20 ?_
    refine dk_iast X 6 (aC_6 g ad T S) (sC_6 g ad T S _ _) d_Diary_add_21 hF (fun S1 hF => ?_)
    refine dk_aload_n (k := 0) (i := 0) X 0 rfl rfl d_Diary_add_22 ?_
    refine dk_get X q_Diary 5 1 (by decide) (oC_Diary g ad T S1) rfl f_Diary_15 d_Diary_add_23 ?_
    refine dk_aload_n (k := 0) (i := 0) X 0 rfl rfl d_Diary_add_26 ?_
    refine dk_get X q_Diary 5 6 (by decide) (oC_Diary g ad T S1) rfl f_Diary_30 d_Diary_add_27 ?_
    refine dk_iload_n (k := 2) (i := 2) X 2 rfl rfl d_Diary_add_30 ?_
    refine dk_iast X 7 (aC_7 g ad T S1) (sC_7 g ad T S1 _ _) d_Diary_add_31 hF (fun S2 hF => ?_)
    refine dk_aload_n (k := 0) (i := 0) X 0 rfl rfl d_Diary_add_32 ?_
    refine dk_get X q_Diary 5 2 (by decide) (oC_Diary g ad T S2) rfl f_Diary_18 d_Diary_add_33 ?_
    refine dk_aload_n (k := 0) (i := 0) X 0 rfl rfl d_Diary_add_36 ?_
    refine dk_get X q_Diary 5 6 (by decide) (oC_Diary g ad T S2) rfl f_Diary_30 d_Diary_add_37 ?_
    refine dk_iload_n (k := 3) (i := 3) X 3 rfl rfl d_Diary_add_40 ?_
    refine dk_iast X 8 (aC_8 g ad T S2) (sC_8 g ad T S2 _ _) d_Diary_add_41 hF (fun S3 hF => ?_)
    refine dk_aload_n (k := 0) (i := 0) X 0 rfl rfl d_Diary_add_42 ?_
    refine dk_get X q_Diary 5 3 (by decide) (oC_Diary g ad T S3) rfl f_Diary_21 d_Diary_add_43 ?_
    refine dk_aload_n (k := 0) (i := 0) X 0 rfl rfl d_Diary_add_46 ?_
    refine dk_get X q_Diary 5 6 (by decide) (oC_Diary g ad T S3) rfl f_Diary_30 d_Diary_add_47 ?_
    refine dk_iload (i := 4) X 4 rfl d_Diary_add_50 ?_
    refine dk_iast X 9 (aC_9 g ad T S3) (sC_9 g ad T S3 _ _) d_Diary_add_52 hF (fun S4 hF => ?_)
    refine dk_aload_n (k := 0) (i := 0) X 0 rfl rfl d_Diary_add_53 ?_
    refine dk_get X q_Diary 5 4 (by decide) (oC_Diary g ad T S4) rfl f_Diary_24 d_Diary_add_54 ?_
    refine dk_aload_n (k := 0) (i := 0) X 0 rfl rfl d_Diary_add_57 ?_
    refine dk_get X q_Diary 5 6 (by decide) (oC_Diary g ad T S4) rfl f_Diary_30 d_Diary_add_58 ?_
    refine dk_iload (i := 5) X 5 rfl d_Diary_add_61 ?_
    refine dk_iast X 10 (aC_10 g ad T S4) (sC_10 g ad T S4 _ _) d_Diary_add_63 hF (fun S5 hF => ?_)
    refine dk_aload_n (k := 0) (i := 0) X 0 rfl rfl d_Diary_add_64 ?_
    refine dk_get X q_Diary 5 5 (by decide) (oC_Diary g ad T S5) rfl f_Diary_27 d_Diary_add_65 ?_
    refine dk_aload_n (k := 0) (i := 0) X 0 rfl rfl d_Diary_add_68 ?_
    refine dk_get X q_Diary 5 6 (by decide) (oC_Diary g ad T S5) rfl f_Diary_30 d_Diary_add_69 ?_
    refine dk_iconst (v := 0) X (by decide) d_Diary_add_72 ?_
    refine dk_iast X 11 (aC_11 g ad T S5) (sC_11 g ad T S5 _ _) d_Diary_add_73 hF (fun S6 hF => ?_)
    refine dk_aload_n (k := 0) (i := 0) X 0 rfl rfl d_Diary_add_74 ?_
    refine dk_dup X rfl d_Diary_add_75 ?_
    refine dk_get X q_Diary 5 6 (by decide) (oC_Diary g ad T S6) rfl f_Diary_30 d_Diary_add_76 ?_
    refine dk_dup_x1 X rfl rfl d_Diary_add_79 ?_
    refine dk_iconst (v := 1) X (by decide) d_Diary_add_80 ?_
    refine dk_iadd X d_Diary_add_81 ?_
    refine dk_puti X q_Diary 5 6 (by decide) (oC_Diary g ad T S6) f_Diary_30 rfl rfl (Nat.le_of_ble_eq_true rfl) (sC_Diary_size g ad T S6 _) d_Diary_add_82 hF (fun S7 hF => ?_)
    exact dk_reti hR hF d_Diary_add_85
  · refine dk_bipush (v := -4) X (by decide) d_Diary_add_9 ?_
    exact dk_reti hR hF d_Diary_add_11
def F_Diary_add (n T : Nat) (x1 : Int32) (x2 : Int32) (x3 : Int32) (x4 : Int32) (x5 : Int32) (S : dk_S) : Option (Int32 × dk_S) := B_Diary_add_0 n T x1 x2 x3 x4 x5 S
theorem c_Diary_add (l : Launch) (g : dk_G) (ad : Nat → Nat) (T n : Nat) (x1 : Int32) (x2 : Int32) (x3 : Int32) (x4 : Int32) (x5 : Int32)  (S : dk_S) : dk_Mi l g y_Diary_add b_Diary_add 6 rm_Diary_add (some .int) [.ref (ad 5), .int x1, .int x2, .int x3, .int x4, .int x5] (wC g ad T) S (F_Diary_add n T x1 x2 x3 x4 x5 S) := dk_enteri (by decide) (Nat.le_of_ble_eq_true rfl) (fun p e s m args below meth c A Q res hF X hR => (kb_Diary_add_0 (n := n) X hR  hF))
abbrev b_Diary_dropLast : ByteArray := prog_2_method_7_code
def y_Diary_dropLast : MethodName := ⟨R_Diary, "dropLast", "()I"⟩
theorem d_Diary_dropLast_0 : decode b_Diary_dropLast 0 = .ok (.aload_n 0, 1) := by decide +kernel
theorem d_Diary_dropLast_1 : decode b_Diary_dropLast 1 = .ok (.getfield 30, 3) := by decide +kernel
theorem d_Diary_dropLast_4 : decode b_Diary_dropLast 4 = .ok (.ifCond .ne 6, 3) := by decide +kernel
theorem d_Diary_dropLast_7 : decode b_Diary_dropLast 7 = .ok (.bipush (-3), 2) := by decide +kernel
theorem d_Diary_dropLast_9 : decode b_Diary_dropLast 9 = .ok (.ireturn, 1) := by decide +kernel
theorem d_Diary_dropLast_10 : decode b_Diary_dropLast 10 = .ok (.aload_n 0, 1) := by decide +kernel
theorem d_Diary_dropLast_11 : decode b_Diary_dropLast 11 = .ok (.dup, 1) := by decide +kernel
theorem d_Diary_dropLast_12 : decode b_Diary_dropLast 12 = .ok (.getfield 30, 3) := by decide +kernel
theorem d_Diary_dropLast_15 : decode b_Diary_dropLast 15 = .ok (.iconst 1, 1) := by decide +kernel
theorem d_Diary_dropLast_16 : decode b_Diary_dropLast 16 = .ok (.isub, 1) := by decide +kernel
theorem d_Diary_dropLast_17 : decode b_Diary_dropLast 17 = .ok (.putfield 30, 3) := by decide +kernel
theorem d_Diary_dropLast_20 : decode b_Diary_dropLast 20 = .ok (.aload_n 0, 1) := by decide +kernel
theorem d_Diary_dropLast_21 : decode b_Diary_dropLast 21 = .ok (.getfield 15, 3) := by decide +kernel
theorem d_Diary_dropLast_24 : decode b_Diary_dropLast 24 = .ok (.aload_n 0, 1) := by decide +kernel
theorem d_Diary_dropLast_25 : decode b_Diary_dropLast 25 = .ok (.getfield 30, 3) := by decide +kernel
theorem d_Diary_dropLast_28 : decode b_Diary_dropLast 28 = .ok (.iaload, 1) := by decide +kernel
theorem d_Diary_dropLast_29 : decode b_Diary_dropLast 29 = .ok (.ireturn, 1) := by decide +kernel
theorem v_Diary_dropLast : dk_Yv y_Diary_dropLast b_Diary_dropLast 1 (some .int) 0 := ⟨dk_in (List.mem_of_getElem? (i := 454) (by decide +kernel)) rfl, dk_in (List.mem_of_getElem? (i := 455) (by decide +kernel)) rfl, dk_in (List.mem_of_getElem? (i := 68) (by decide +kernel)) rfl, dk_in (List.mem_of_getElem? (i := 456) (by decide +kernel)) rfl, by decide +kernel, by decide +kernel, by decide +kernel⟩
abbrev rm_Diary_dropLast : Room := { frames := 0, cells := 0, slots := 0, locals := 0 }
def B_Diary_dropLast_0 (n T : Nat)   (S : dk_S) : Option (Int32 × dk_S) :=
  if ¬ (S 104 0) = 0 then (dk_p S 104 ((S 104 0) - (1 : Int32)) fun S1 => dk_r 32 (S1 7) (S1 104 0) fun v2 => some (v2, S1)) else (some ((-3 : Int32), S))
set_option maxRecDepth 20000 in
theorem kb_Diary_dropLast_0 {p : Program} {l : Launch} {e : Env} {s : State} {m : MethodId} {args : Array Value} {below : List Frame} {meth : Method} {c : Code} {g : dk_G} {A : Nat → Prop} {Q : State → Prop} {ad : Nat → Nat} {T : Nat} {n : Nat} {res : (Int32 × dk_S)} (X : dk_X p s m args meth c b_Diary_dropLast 1 R_Diary (some .int) g A) (hR : dk_Ri p l e rm_Diary_dropLast s m args below meth c g A Q 1 b_Diary_dropLast (some .int) (wC g ad T) res)   {S : dk_S}  (hF : B_Diary_dropLast_0 n T   S = some res) : dk_J p l e rm_Diary_dropLast s m args below meth c g A Q 1 0 0 0 [(0, .ref (ad 5))] [] (wC g ad T S) := by
  unfold B_Diary_dropLast_0 at hF
  refine dk_aload_n (k := 0) (i := 0) X 0 rfl rfl d_Diary_dropLast_0 ?_
  refine dk_get X q_Diary 5 6 (by decide) (oC_Diary g ad T S) rfl f_Diary_30 d_Diary_dropLast_1 ?_
  refine dk_if_ne (tgt := 10) X (by decide) d_Diary_dropLast_4 hF (fun hF => ?_) (fun hF => ?_)
  · refine dk_aload_n (k := 0) (i := 0) X 0 rfl rfl d_Diary_dropLast_10 ?_
    refine dk_dup X rfl d_Diary_dropLast_11 ?_
    refine dk_get X q_Diary 5 6 (by decide) (oC_Diary g ad T S) rfl f_Diary_30 d_Diary_dropLast_12 ?_
    refine dk_iconst (v := 1) X (by decide) d_Diary_dropLast_15 ?_
    refine dk_isub X d_Diary_dropLast_16 ?_
    refine dk_puti X q_Diary 5 6 (by decide) (oC_Diary g ad T S) f_Diary_30 rfl rfl (Nat.le_of_ble_eq_true rfl) (sC_Diary_size g ad T S _) d_Diary_dropLast_17 hF (fun S1 hF => ?_)
    refine dk_aload_n (k := 0) (i := 0) X 0 rfl rfl d_Diary_dropLast_20 ?_
    refine dk_get X q_Diary 5 1 (by decide) (oC_Diary g ad T S1) rfl f_Diary_15 d_Diary_dropLast_21 ?_
    refine dk_aload_n (k := 0) (i := 0) X 0 rfl rfl d_Diary_dropLast_24 ?_
    refine dk_get X q_Diary 5 6 (by decide) (oC_Diary g ad T S1) rfl f_Diary_30 d_Diary_dropLast_25 ?_
    refine dk_iald X 7 (aC_7 g ad T S1) d_Diary_dropLast_28 hF (fun v2 hF => ?_)
    exact dk_reti hR hF d_Diary_dropLast_29
  · refine dk_bipush (v := -3) X (by decide) d_Diary_dropLast_7 ?_
    exact dk_reti hR hF d_Diary_dropLast_9
def F_Diary_dropLast (n T : Nat)  (S : dk_S) : Option (Int32 × dk_S) := B_Diary_dropLast_0 n T  S
theorem c_Diary_dropLast (l : Launch) (g : dk_G) (ad : Nat → Nat) (T n : Nat)   (S : dk_S) : dk_Mi l g y_Diary_dropLast b_Diary_dropLast 1 rm_Diary_dropLast (some .int) [.ref (ad 5)] (wC g ad T) S (F_Diary_dropLast n T  S) := dk_enteri (by decide) (Nat.le_of_ble_eq_true rfl) (fun p e s m args below meth c A Q res hF X hR => (kb_Diary_dropLast_0 (n := n) X hR  hF))
end
section
def R_Arrays : String := "java/util/Arrays"
def R_Integer : String := "java/lang/Integer"
def R_String : String := "java/lang/String"
def R_Latin : String := "java/lang/StringLatin1"
theorem w_max : Cond.static Lib.Math.max.name ∈ dk_tb ∧ Cond.initialized "java/lang/Math" ∈ dk_tb ∧ Cond.code Lib.Math.max.name Lib.Math.max.code 2 (some .int) ∈ dk_tb := ⟨dk_in (List.mem_of_getElem? (i := 775) (by decide +kernel)) rfl, dk_in (List.mem_of_getElem? (i := 81) (by decide +kernel)) rfl, dk_in (List.mem_of_getElem? (i := 776) (by decide +kernel)) rfl⟩
theorem w_min : Cond.static Lib.Math.min.name ∈ dk_tb ∧ Cond.initialized "java/lang/Math" ∈ dk_tb ∧ Cond.code Lib.Math.min.name Lib.Math.min.code 2 (some .int) ∈ dk_tb := ⟨dk_in (List.mem_of_getElem? (i := 626) (by decide +kernel)) rfl, dk_in (List.mem_of_getElem? (i := 81) (by decide +kernel)) rfl, dk_in (List.mem_of_getElem? (i := 627) (by decide +kernel)) rfl⟩
theorem w_copy : Cond.native arraycopyName ∈ dk_tb ∧ Cond.static arraycopyName ∈ dk_tb ∧ Cond.initialized "java/lang/System" ∈ dk_tb := ⟨dk_in (List.mem_of_getElem? (i := 630) (by decide +kernel)) rfl, dk_in (List.mem_of_getElem? (i := 629) (by decide +kernel)) rfl, dk_in (List.mem_of_getElem? (i := 82) (by decide +kernel)) rfl⟩
def dk_F (S : dk_S) (k : Nat) (f : Nat → Int32) : dk_S := fun k' => if k' = k then f else S k'
theorem dk_F_n {S : dk_S} {k k2 : Nat} {f : Nat → Int32} (h : k2 ≠ k) : dk_F S k f k2 = S k2 := if_neg h
theorem dk_F_s {S : dk_S} {k : Nat} {f : Nat → Int32} : dk_F S k f k = f := if_pos rfl
def dk_cp {β : Type} (S : dk_S) (k0 k1 n0 n1 : Nat) (sp dp n : Int32) (k : dk_S → Option β) : Option β := if sp < 0 ∨ dp < 0 ∨ n < 0 ∨ n0 < sp.toNatClampNeg + n.toNatClampNeg ∨ n1 < dp.toNatClampNeg + n.toNatClampNeg then none else k (dk_F S k1 (va_cpy (S k0) (S k1) sp.toNatClampNeg dp.toNatClampNeg n.toNatClampNeg))
theorem dk_cp_out {β : Type} {S : dk_S} {k0 k1 n0 n1 : Nat} {sp dp n : Int32} {k : dk_S → Option β} {res : β} (h : dk_cp S k0 k1 n0 n1 sp dp n k = some res) : (¬ sp < 0 ∧ ¬ dp < 0 ∧ ¬ n < 0 ∧ sp.toNatClampNeg + n.toNatClampNeg ≤ n0 ∧ dp.toNatClampNeg + n.toNatClampNeg ≤ n1) ∧ k (dk_F S k1 (va_cpy (S k0) (S k1) sp.toNatClampNeg dp.toNatClampNeg n.toNatClampNeg)) = some res := by
  unfold dk_cp at h; split at h
  · cases h
  · rename_i q
    simp only [not_or, Nat.not_lt] at q
    exact ⟨q, h⟩
theorem wCt_F {g : dk_G} {ad : Nat → Nat} {S : dk_S} {t k : Nat} {f : Nat → Int32} (h : k < 1000) : wCt g ad (dk_F S k f) t = wCt g ad S t := by
  have e0 : dk_F S k f (1001 + 4 * t + 2 * 0) = S (1001 + 4 * t + 2 * 0) := dk_F_n (by omega)
  have e1 : dk_F S k f (1000 + 4 * t + 2 * 0) = S (1000 + 4 * t + 2 * 0) := dk_F_n (by omega)
  have e2 : dk_F S k f (1001 + 4 * t + 2 * 1) = S (1001 + 4 * t + 2 * 1) := dk_F_n (by omega)
  have e3 : dk_F S k f (1000 + 4 * t + 2 * 1) = S (1000 + 4 * t + 2 * 1) := dk_F_n (by omega)
  unfold wCt
  rw [e0, e1, e2, e3]
theorem wCT_F {g : dk_G} {ad : Nat → Nat} {S : dk_S} {k : Nat} {f : Nat → Int32} (h : k < 1000) : ∀ T : Nat, wCT g ad (dk_F S k f) T = wCT g ad S T
  | 0 => rfl
  | T + 1 => by rw [wCT, wCT, wCT_F h T, wCt_F h]
theorem wC_setF {g : dk_G} {ad : Nat → Nat} {T : Nat} {S : dk_S} {k q : Nat} {f : Nat → Int32} {c : Nat × va_E} (hk : k < 1000) (hq : q < 43) (h : (wC0 g ad T S).set q c = wC0 g ad T (dk_F S k f)) : (wC g ad T S).set q c = wC g ad T (dk_F S k f) := by
  unfold wC
  rw [List.set_append_left _ _ (show q < (wC0 g ad T S).length from hq), wCT_F hk, h]
section WCF
variable (g : dk_G) (ad : Nat → Nat) (T : Nat) (S : dk_S) (f : Nat → Int32)
theorem zC_2 : (wC g ad T S).set 2 (ad 2, .inl (g.2.1 0, 8, .inl f)) = wC g ad T (dk_F S 2 f) := wC_setF (by decide) (by decide) rfl
theorem zC_11 : (wC g ad T S).set 11 (ad 11, .inl (g.2.1 0, 32, .inl f)) = wC g ad T (dk_F S 11 f) := wC_setF (by decide) (by decide) rfl
theorem zC_33 : (wC g ad T S).set 33 (ad 33, .inl (g.2.1 0, 8, .inl f)) = wC g ad T (dk_F S 33 f) := wC_setF (by decide) (by decide) rfl
theorem zC_34 : (wC g ad T S).set 34 (ad 34, .inl (g.2.1 0, 32, .inl f)) = wC g ad T (dk_F S 34 f) := wC_setF (by decide) (by decide) rfl
theorem zC_row (j : Nat) (hj : j < 4) : (wC g ad T S).set (36 + 2 * j) (ad (36 + 2 * j), .inl (g.2.1 0, 40, .inl f)) = wC g ad T (dk_F S (36 + 2 * j) f) := by
  rcases (show j = 0 ∨ j = 1 ∨ j = 2 ∨ j = 3 by omega) with rfl | rfl | rfl | rfl
  all_goals exact wC_setF (by decide) (by decide) rfl
end WCF
section DK4S
variable {p : Program} {l : Launch} {e : Env} {R : Room} {s : State} {m : MethodId} {args : Array Value} {below : List Frame} {meth : Method} {c : Code} {g : dk_G} {A : Nat → Prop} {Q : State → Prop} {nL cells slots pc : Nat} {lv : List (Nat × Value)} {st st0 : List Value} {cc : ByteArray} {own : String} {ret : Option FieldType} {wd : dk_S → va_W} {S : dk_S}
theorem dk_callSv {β : Type} {res : β} {y : MethodName} {b : ByteArray} {nL2 n idx : Nat} {ret2 : Option FieldType} {rm : Room} {F : Option dk_S} {K : dk_S → Option β} (X : dk_X p s m args meth c cc nL own ret g A) (hy : dk_Ys y b nL2 ret2 n) (As : List Value) (hM : dk_Mv l g y b nL2 rm ret2 As wd S F) (hlk : Cond.methodLink own idx y ∈ dk_tb) (hst : st0 = As.reverse ++ st) (hAs : As.length = n) (hrm : rm.cells = 0 ∧ rm.slots = 0 ∧ rm.frames + 1 ≤ R.frames ∧ 8 + (nL2 + 11) + rm.locals ≤ R.locals ∧ cells ≤ R.cells ∧ slots ≤ R.slots) (hcat : (st.map fun v => v.category).sum ≤ 8) (hdg : decode cc pc = .ok (.invokestatic idx, 3)) (hF : dk_cv F K = some res)
    (kk : ∀ (S' : dk_S), K S' = some res → dk_J p l e R s m args below meth c g A Q nL cells slots (pc + 3) lv st (wd S')) : dk_J p l e R s m args below meth c g A Q nL cells slots pc lv st0 (wd S) := by
  obtain ⟨v, hv, hF⟩ := dk_cv_out hF
  intro H locs ls hP hD hS hl
  obtain ⟨h1, h2, h3, h4, h5, h6⟩ := hrm
  have hx := X
  obtain ⟨x1, x2, x3, x4, x5, x6, -⟩ := X
  refine va_callv (va_runS (As := As) (rest := st) ⟨x1, x2, x3, x4, x5⟩ (hM H.size v hv) (dk_cwS x5 hy hlk h1 h2 ⟨h3, h4⟩) ⟨dk_In_blind _ _ _ _, fun U hU hW => ⟨rfl, dk_start hx hP hD hS U hU hW⟩⟩ rfl hAs hl.1 hst (lv_room hcat) hdg ⟨h5, h6⟩) hS (fun q _ h => dk_free hx hD hS q h) (dk_free hx hD hS) (fun u t H1 locs1 ht hvm hw hB hz1 hk1 hS1 => ?_)
  obtain ⟨b1, b2, b3⟩ := hB
  subst hw
  rw [ht] at b1
  exact kk _ hF H1 locs1 ls b1 (b3.weaken (fun k q _ h => dk_free hx hD hS q.1 h)) hS1 hl
end DK4S
section DK4
variable {p : Program} {l : Launch} {e : Env} {R : Room} {s : State} {m : MethodId} {args : Array Value} {below : List Frame} {meth : Method} {c : Code} {g : dk_G} {A : Nat → Prop} {Q : State → Prop} {nL cells slots pc : Nat} {lv : List (Nat × Value)} {st : List Value} {ws : va_W} {cc : ByteArray} {own : String} {ret : Option FieldType}
theorem dk_ldcw (X : dk_X p s m args meth c cc nL own ret g A) {index : Nat} {v : Int32} (hc : Cond.constant own index v ∈ dk_tb) (hdg : decode cc pc = .ok (.ldc_w index, 3))
    (kk : dk_J p l e R s m args below meth c g A Q nL cells slots (pc + 3) lv (.int v :: st) ws) : dk_J p l e R s m args below meth c g A Q nL cells slots pc lv st ws := fun H locs ls hP hD hS hl =>
  lv_ldcw X.1 X.2.1 X.2.2.2.1 (X.2.2.2.2.1 _ hc) hdg (kk H locs ls hP hD hS hl)
theorem dk_iushr (X : dk_X p s m args meth c cc nL own ret g A) {x y : Int32} (hdg : decode cc pc = .ok (.iushr, 1))
    (kk : dk_J p l e R s m args below meth c g A Q nL cells slots (pc + 1) lv (.int (x.toUInt32 >>> (y.toUInt32 &&& Int32.toUInt32 31)).toInt32 :: st) ws) : dk_J p l e R s m args below meth c g A Q nL cells slots pc lv (.int y :: .int x :: st) ws := fun H locs ls hP hD hS hl =>
  lv_iushr X.1 X.2.1 hdg rfl (kk H locs ls hP hD hS hl)
theorem dk_mmax (X : dk_X p s m args meth c cc nL own ret g A) {index : Nat} {x y : Int32} (hlk : Cond.methodLink own index Lib.Math.max.name ∈ dk_tb) (hfr : 1 ≤ R.frames) (hlo : (st.map fun v => v.category).sum + 13 ≤ R.locals) (hc : cells ≤ R.cells) (hs : slots ≤ R.slots) (hdg : decode cc pc = .ok (.invokestatic index, 3))
    (kk : dk_J p l e R s m args below meth c g A Q nL cells slots (pc + 3) lv (.int (if x < y then y else x) :: st) ws) : dk_J p l e R s m args below meth c g A Q nL cells slots pc lv (.int y :: .int x :: st) ws := fun H locs ls hP hD hS hl =>
  va_mmax X.1 X.2.1 (X.2.2.1.trans hl.1.symm) X.2.2.2.1 (X.2.2.2.2.1 _ hlk) (X.2.2.2.2.1 _ w_max.1) (X.2.2.2.2.1 _ w_max.2.1) (X.2.2.2.2.1 _ w_max.2.2) hfr hlo hc hs hdg (kk H locs ls hP hD hS hl)
theorem dk_mmin (X : dk_X p s m args meth c cc nL own ret g A) {index : Nat} {x y : Int32} (hlk : Cond.methodLink own index Lib.Math.min.name ∈ dk_tb) (hfr : 1 ≤ R.frames) (hlo : (st.map fun v => v.category).sum + 13 ≤ R.locals) (hc : cells ≤ R.cells) (hs : slots ≤ R.slots) (hdg : decode cc pc = .ok (.invokestatic index, 3))
    (kk : dk_J p l e R s m args below meth c g A Q nL cells slots (pc + 3) lv (.int (if y < x then y else x) :: st) ws) : dk_J p l e R s m args below meth c g A Q nL cells slots pc lv (.int y :: .int x :: st) ws := fun H locs ls hP hD hS hl =>
  va_mmin X.1 X.2.1 (X.2.2.1.trans hl.1.symm) X.2.2.2.1 (X.2.2.2.2.1 _ hlk) (X.2.2.2.2.1 _ w_min.1) (X.2.2.2.2.1 _ w_min.2.1) (X.2.2.2.2.1 _ w_min.2.2) hfr hlo hc hs hdg (kk H locs ls hP hD hS hl)
theorem dk_acopy {β : Type} {res : β} {K : dk_S → Option β} {wd : dk_S → va_W} {S : dk_S} (X : dk_X p s m args meth c cc nL own ret g A) {index a0 a n0 n1 k0 k1 : Nat} {sp dp n : Int32} (q0 q1 : Nat) (ha0 : (wd S)[q0]? = some (a0, .inl (g.2.1 0, n0, .inl (S k0)))) (ha1 : (wd S)[q1]? = some (a, .inl (g.2.1 0, n1, .inl (S k1)))) (hset : (wd S).set q1 (a, .inl (g.2.1 0, n1, .inl (va_cpy (S k0) (S k1) sp.toNatClampNeg dp.toNatClampNeg n.toNatClampNeg))) = wd (dk_F S k1 (va_cpy (S k0) (S k1) sp.toNatClampNeg dp.toNatClampNeg n.toNatClampNeg))) (hlk : Cond.methodLink own index arraycopyName ∈ dk_tb) (hfr : 1 ≤ R.frames) (hlo : (st.map fun v => v.category).sum + (nativeFrameWords "java/lang/System" "arraycopy" 5 + 11) ≤ R.locals) (hdg : decode cc pc = .ok (.invokestatic index, 3)) (hF : dk_cp S k0 k1 n0 n1 sp dp n K = some res)
    (kk : ∀ S' : dk_S, K S' = some res → dk_J p l e R s m args below meth c g A Q nL cells slots (pc + 3) lv st (wd S')) : dk_J p l e R s m args below meth c g A Q nL cells slots pc lv (.int n :: .int dp :: .ref a :: .int sp :: .ref a0 :: st) (wd S) := by
  obtain ⟨⟨h1, h2, h3, h4, h5⟩, hF⟩ := dk_cp_out hF
  intro H locs ls hP hD hS hl
  exact va_copyi X.1 X.2.1 (X.2.2.1.trans hl.1.symm) X.2.2.2.1 (X.2.2.2.2.1 _ hlk) (X.2.2.2.2.1 _ w_copy.1) (X.2.2.2.2.1 _ w_copy.2.1) (X.2.2.2.2.1 _ w_copy.2.2) X.2.2.2.2.2.1 hP hD hS q0 q1 0 0 ha0 ha1 rfl rfl rfl h1 h2 h3 h4 h5 (fun _ _ => rfl) hfr hlo hdg (fun H1 locs1 hP1 hD1 hS1 => kk _ hF H1 locs1 ls (hset ▸ hP1) (hset ▸ hD1) hS1 hl)
theorem dk_shld {β : Type} {res : β} {K : Nat → Option β} {ad : Nat → Nat} {T : Nat} {S : dk_S} (X : dk_X p s m args meth c cc nL own ret g A) {i : Int32} (hdg : decode cc pc = .ok (.aaload, 1)) (hF : dk_sh i K = some res)
    (kk : ∀ j : Nat, j < 4 → K j = some res → dk_J p l e R s m args below meth c g A Q nL cells slots (pc + 1) lv (.ref (ad (35 + 2 * j)) :: st) (wC g ad T S)) : dk_J p l e R s m args below meth c g A Q nL cells slots pc lv (.int i :: .ref (ad 31) :: st) (wC g ad T S) := by
  obtain ⟨h1, hF⟩ := dk_sh_out hF
  have hj : i.toNatClampNeg < 4 := Nat.not_le.mp fun q => h1 (Or.inr q)
  intro H locs ls hP hD hS hl
  refine va_aldq X.1 X.2.1 X.2.2.2.2.2.1 hP 31 5 (aC_31 g ad T S) rfl h1 hdg ?_
  show W p l e R s m args below meth c H locs cells slots Q (F0 m (pc + 1) ls (va_rf (if i.toNatClampNeg < 4 then some (ad (35 + 2 * i.toNatClampNeg)) else none) :: st))
  rw [if_pos hj]
  exact kk _ hj hF H locs ls hP hD hS hl
end DK4

abbrev b_Arrays_fill : ByteArray := prog_19_method_103_code
def y_Arrays_fill : MethodName := ⟨R_Arrays, "fill", "([II)V"⟩
theorem d_Arrays_fill_0 : decode b_Arrays_fill 0 = .ok (.iconst 0, 1) := by decide +kernel
theorem d_Arrays_fill_1 : decode b_Arrays_fill 1 = .ok (.istore_n 2, 1) := by decide +kernel
theorem d_Arrays_fill_2 : decode b_Arrays_fill 2 = .ok (.aload_n 0, 1) := by decide +kernel
theorem d_Arrays_fill_3 : decode b_Arrays_fill 3 = .ok (.arraylength, 1) := by decide +kernel
theorem d_Arrays_fill_4 : decode b_Arrays_fill 4 = .ok (.istore_n 3, 1) := by decide +kernel
theorem d_Arrays_fill_5 : decode b_Arrays_fill 5 = .ok (.iload_n 2, 1) := by decide +kernel
theorem d_Arrays_fill_6 : decode b_Arrays_fill 6 = .ok (.iload_n 3, 1) := by decide +kernel
theorem d_Arrays_fill_7 : decode b_Arrays_fill 7 = .ok (.if_icmp .ge 13, 3) := by decide +kernel
theorem d_Arrays_fill_10 : decode b_Arrays_fill 10 = .ok (.aload_n 0, 1) := by decide +kernel
theorem d_Arrays_fill_11 : decode b_Arrays_fill 11 = .ok (.iload_n 2, 1) := by decide +kernel
theorem d_Arrays_fill_12 : decode b_Arrays_fill 12 = .ok (.iload_n 1, 1) := by decide +kernel
theorem d_Arrays_fill_13 : decode b_Arrays_fill 13 = .ok (.iastore, 1) := by decide +kernel
theorem d_Arrays_fill_14 : decode b_Arrays_fill 14 = .ok (.iinc 2 1, 3) := by decide +kernel
theorem d_Arrays_fill_17 : decode b_Arrays_fill 17 = .ok (.goto (-12), 3) := by decide +kernel
theorem d_Arrays_fill_20 : decode b_Arrays_fill 20 = .ok (.return_, 1) := by decide +kernel
theorem v_Arrays_fill : dk_Ys y_Arrays_fill b_Arrays_fill 4 (none) 2 := ⟨dk_in (List.mem_of_getElem? (i := 894) (by decide +kernel)) rfl, dk_in (List.mem_of_getElem? (i := 80) (by decide +kernel)) rfl, dk_in (List.mem_of_getElem? (i := 895) (by decide +kernel)) rfl, by decide +kernel, by decide +kernel, by decide +kernel⟩
abbrev rm_Arrays_fill : Room := { frames := 0, cells := 0, slots := 0, locals := 0 }
def B_Arrays_fill_5b (n T : Nat) (k5 : Nat → Int32 → Int32 → Int32 → dk_S → Option dk_S) (jx0 : Nat) (x1 : Int32) (x2 : Int32) (x3 : Int32) (S : dk_S) : Option dk_S :=
  if x3 ≤ x2 then (some S) else (dk_w S (36 + 2 * jx0) 40 x2 x1 fun S1 => k5 jx0 x1 (x2 + (1 : Int32)) x3 S1)
set_option maxRecDepth 20000 in
theorem kb_Arrays_fill_5b {p : Program} {l : Launch} {e : Env} {s : State} {m : MethodId} {args : Array Value} {below : List Frame} {meth : Method} {c : Code} {g : dk_G} {A : Nat → Prop} {Q : State → Prop} {ad : Nat → Nat} {T : Nat} {n : Nat} {res : dk_S} (X : dk_X p s m args meth c b_Arrays_fill 4 R_Arrays (none) g A) (hR : dk_Rv p l e rm_Arrays_fill s m args below meth c g A Q 4 b_Arrays_fill (none) (wC g ad T) res) {k5 : Nat → Int32 → Int32 → Int32 → dk_S → Option dk_S} (hk5 : ∀ (jx0 : Nat) (x1 : Int32) (x2 : Int32) (x3 : Int32) (hx0 : jx0 < 4) (S : dk_S), k5 jx0 x1 x2 x3 S = some res → dk_J p l e rm_Arrays_fill s m args below meth c g A Q 4 0 0 5 [(0, .ref (ad (36 + 2 * jx0))), (1, .int x1), (2, .int x2), (3, .int x3)] [] (wC g ad T S)) {jx0 : Nat} {x1 : Int32} {x2 : Int32} {x3 : Int32} {S : dk_S} (hx0 : jx0 < 4) (hF : B_Arrays_fill_5b n T k5 jx0 x1 x2 x3 S = some res) : dk_J p l e rm_Arrays_fill s m args below meth c g A Q 4 0 0 5 [(0, .ref (ad (36 + 2 * jx0))), (1, .int x1), (2, .int x2), (3, .int x3)] [] (wC g ad T S) := by
  unfold B_Arrays_fill_5b at hF
  refine dk_iload_n (k := 2) (i := 2) X 2 rfl rfl d_Arrays_fill_5 ?_
  refine dk_iload_n (k := 3) (i := 3) X 3 rfl rfl d_Arrays_fill_6 ?_
  refine dk_icmp_ge (tgt := 20) X (by decide) d_Arrays_fill_7 hF (fun hF => ?_) (fun hF => ?_)
  · exact dk_retv hR hF d_Arrays_fill_20
  · refine dk_aload_n (k := 0) (i := 0) X 0 rfl rfl d_Arrays_fill_10 ?_
    refine dk_iload_n (k := 2) (i := 2) X 2 rfl rfl d_Arrays_fill_11 ?_
    refine dk_iload_n (k := 1) (i := 1) X 1 rfl rfl d_Arrays_fill_12 ?_
    refine dk_iast X (36 + 2 * jx0) (aC_row g ad T S jx0 hx0) (sC_row g ad T S jx0 hx0 _ _) d_Arrays_fill_13 hF (fun S1 hF => ?_)
    refine dk_iinc (i := 2) (v := (x2 + (1 : Int32))) (lv' := [(2, .int (x2 + (1 : Int32))), (0, .ref (ad (36 + 2 * jx0))), (1, .int x1), (3, .int x3)]) X 2 rfl (dk_ii _ (by decide)) (by decide) rfl d_Arrays_fill_14 ?_
    refine dk_goto (tgt := 5) X (by decide) d_Arrays_fill_17 ?_
    exact dk_sub [1, 2, 0, 3] rfl (hk5 jx0 x1 (x2 + (1 : Int32)) x3 hx0 S1 hF)
def B_Arrays_fill_5 (n T : Nat)  : Nat → Nat → Int32 → Int32 → Int32 → dk_S → Option dk_S
  | 0 => fun _ _ _ _ _ => none
  | q + 1 => fun jx0 x1 x2 x3 S => B_Arrays_fill_5b n T (fun jx0 x1 x2 x3 S => B_Arrays_fill_5 n T  q jx0 x1 x2 x3 S) jx0 x1 x2 x3 S
theorem kb_Arrays_fill_5 {p : Program} {l : Launch} {e : Env} {s : State} {m : MethodId} {args : Array Value} {below : List Frame} {meth : Method} {c : Code} {g : dk_G} {A : Nat → Prop} {Q : State → Prop} {ad : Nat → Nat} {T : Nat} {n : Nat} {res : dk_S} (X : dk_X p s m args meth c b_Arrays_fill 4 R_Arrays (none) g A) (hR : dk_Rv p l e rm_Arrays_fill s m args below meth c g A Q 4 b_Arrays_fill (none) (wC g ad T) res)  : ∀ (q : Nat) (jx0 : Nat) (x1 : Int32) (x2 : Int32) (x3 : Int32) (hx0 : jx0 < 4) (S : dk_S), B_Arrays_fill_5 n T  q jx0 x1 x2 x3 S = some res → dk_J p l e rm_Arrays_fill s m args below meth c g A Q 4 0 0 5 [(0, .ref (ad (36 + 2 * jx0))), (1, .int x1), (2, .int x2), (3, .int x3)] [] (wC g ad T S) := by
  intro q
  induction q with
  | zero => intro jx0 x1 x2 x3 hx0 S hF; cases hF
  | succ q ih => intro jx0 x1 x2 x3 hx0 S hF; exact kb_Arrays_fill_5b (n := n) X hR ih hx0 hF
def B_Arrays_fill_0 (n T : Nat)  (jx0 : Nat) (x1 : Int32) (S : dk_S) : Option dk_S :=
  B_Arrays_fill_5 n T  n jx0 x1 (0 : Int32) (nI 40) S
set_option maxRecDepth 20000 in
theorem kb_Arrays_fill_0 {p : Program} {l : Launch} {e : Env} {s : State} {m : MethodId} {args : Array Value} {below : List Frame} {meth : Method} {c : Code} {g : dk_G} {A : Nat → Prop} {Q : State → Prop} {ad : Nat → Nat} {T : Nat} {n : Nat} {res : dk_S} (X : dk_X p s m args meth c b_Arrays_fill 4 R_Arrays (none) g A) (hR : dk_Rv p l e rm_Arrays_fill s m args below meth c g A Q 4 b_Arrays_fill (none) (wC g ad T) res)  {jx0 : Nat} {x1 : Int32} {S : dk_S} (hx0 : jx0 < 4) (hF : B_Arrays_fill_0 n T  jx0 x1 S = some res) : dk_J p l e rm_Arrays_fill s m args below meth c g A Q 4 0 0 0 [(0, .ref (ad (36 + 2 * jx0))), (1, .int x1)] [] (wC g ad T S) := by
  unfold B_Arrays_fill_0 at hF
  refine dk_iconst (v := 0) X (by decide) d_Arrays_fill_0 ?_
  refine dk_istore_n (k := 2) (i := 2) (lv' := [(2, .int (0 : Int32)), (0, .ref (ad (36 + 2 * jx0))), (1, .int x1)]) X rfl (by decide) rfl d_Arrays_fill_1 ?_
  refine dk_aload_n (k := 0) (i := 0) X 1 rfl rfl d_Arrays_fill_2 ?_
  refine dk_alen X (36 + 2 * jx0) 0 (aC_row g ad T S jx0 hx0) rfl d_Arrays_fill_3 ?_
  refine dk_istore_n (k := 3) (i := 3) (lv' := [(3, .int (nI 40)), (2, .int (0 : Int32)), (0, .ref (ad (36 + 2 * jx0))), (1, .int x1)]) X rfl (by decide) rfl d_Arrays_fill_4 ?_
  exact dk_sub [2, 3, 1, 0] rfl (kb_Arrays_fill_5 (n := n) X hR  n jx0 x1 (0 : Int32) (nI 40) hx0 S hF)
def F_Arrays_fill (n T : Nat) (jx0 : Nat) (x1 : Int32) (S : dk_S) : Option dk_S := B_Arrays_fill_0 n T jx0 x1 S
theorem c_Arrays_fill (l : Launch) (g : dk_G) (ad : Nat → Nat) (T n : Nat) (jx0 : Nat) (x1 : Int32) (hx0 : jx0 < 4) (S : dk_S) : dk_Mv l g y_Arrays_fill b_Arrays_fill 4 rm_Arrays_fill (none) [.ref (ad (36 + 2 * jx0)), .int x1] (wC g ad T) S (F_Arrays_fill n T jx0 x1 S) := dk_enterv (by decide) rfl (Nat.le_of_ble_eq_true rfl) (fun p e s m args below meth c A Q res hF X hR => (kb_Arrays_fill_0 (n := n) X hR hx0 hF))
abbrev b_Integer_bitCount : ByteArray := prog_13_method_49_code
def y_Integer_bitCount : MethodName := ⟨R_Integer, "bitCount", "(I)I"⟩
theorem d_Integer_bitCount_0 : decode b_Integer_bitCount 0 = .ok (.iload_n 0, 1) := by decide +kernel
theorem d_Integer_bitCount_1 : decode b_Integer_bitCount 1 = .ok (.iload_n 0, 1) := by decide +kernel
theorem d_Integer_bitCount_2 : decode b_Integer_bitCount 2 = .ok (.iconst 1, 1) := by decide +kernel
theorem d_Integer_bitCount_3 : decode b_Integer_bitCount 3 = .ok (.iushr, 1) := by decide +kernel
theorem d_Integer_bitCount_4 : decode b_Integer_bitCount 4 = .ok (.ldc_w 265, 3) := by decide +kernel
theorem d_Integer_bitCount_7 : decode b_Integer_bitCount 7 = .ok (.iand, 1) := by decide +kernel
theorem d_Integer_bitCount_8 : decode b_Integer_bitCount 8 = .ok (.isub, 1) := by decide +kernel
theorem d_Integer_bitCount_9 : decode b_Integer_bitCount 9 = .ok (.istore_n 0, 1) := by decide +kernel
theorem d_Integer_bitCount_10 : decode b_Integer_bitCount 10 = .ok (.iload_n 0, 1) := by decide +kernel
theorem d_Integer_bitCount_11 : decode b_Integer_bitCount 11 = .ok (.ldc_w 266, 3) := by decide +kernel
theorem d_Integer_bitCount_14 : decode b_Integer_bitCount 14 = .ok (.iand, 1) := by decide +kernel
theorem d_Integer_bitCount_15 : decode b_Integer_bitCount 15 = .ok (.iload_n 0, 1) := by decide +kernel
theorem d_Integer_bitCount_16 : decode b_Integer_bitCount 16 = .ok (.iconst 2, 1) := by decide +kernel
theorem d_Integer_bitCount_17 : decode b_Integer_bitCount 17 = .ok (.iushr, 1) := by decide +kernel
theorem d_Integer_bitCount_18 : decode b_Integer_bitCount 18 = .ok (.ldc_w 266, 3) := by decide +kernel
theorem d_Integer_bitCount_21 : decode b_Integer_bitCount 21 = .ok (.iand, 1) := by decide +kernel
theorem d_Integer_bitCount_22 : decode b_Integer_bitCount 22 = .ok (.iadd, 1) := by decide +kernel
theorem d_Integer_bitCount_23 : decode b_Integer_bitCount 23 = .ok (.istore_n 0, 1) := by decide +kernel
theorem d_Integer_bitCount_24 : decode b_Integer_bitCount 24 = .ok (.iload_n 0, 1) := by decide +kernel
theorem d_Integer_bitCount_25 : decode b_Integer_bitCount 25 = .ok (.iload_n 0, 1) := by decide +kernel
theorem d_Integer_bitCount_26 : decode b_Integer_bitCount 26 = .ok (.iconst 4, 1) := by decide +kernel
theorem d_Integer_bitCount_27 : decode b_Integer_bitCount 27 = .ok (.iushr, 1) := by decide +kernel
theorem d_Integer_bitCount_28 : decode b_Integer_bitCount 28 = .ok (.iadd, 1) := by decide +kernel
theorem d_Integer_bitCount_29 : decode b_Integer_bitCount 29 = .ok (.ldc_w 267, 3) := by decide +kernel
theorem d_Integer_bitCount_32 : decode b_Integer_bitCount 32 = .ok (.iand, 1) := by decide +kernel
theorem d_Integer_bitCount_33 : decode b_Integer_bitCount 33 = .ok (.istore_n 0, 1) := by decide +kernel
theorem d_Integer_bitCount_34 : decode b_Integer_bitCount 34 = .ok (.iload_n 0, 1) := by decide +kernel
theorem d_Integer_bitCount_35 : decode b_Integer_bitCount 35 = .ok (.iload_n 0, 1) := by decide +kernel
theorem d_Integer_bitCount_36 : decode b_Integer_bitCount 36 = .ok (.bipush 8, 2) := by decide +kernel
theorem d_Integer_bitCount_38 : decode b_Integer_bitCount 38 = .ok (.iushr, 1) := by decide +kernel
theorem d_Integer_bitCount_39 : decode b_Integer_bitCount 39 = .ok (.iadd, 1) := by decide +kernel
theorem d_Integer_bitCount_40 : decode b_Integer_bitCount 40 = .ok (.istore_n 0, 1) := by decide +kernel
theorem d_Integer_bitCount_41 : decode b_Integer_bitCount 41 = .ok (.iload_n 0, 1) := by decide +kernel
theorem d_Integer_bitCount_42 : decode b_Integer_bitCount 42 = .ok (.iload_n 0, 1) := by decide +kernel
theorem d_Integer_bitCount_43 : decode b_Integer_bitCount 43 = .ok (.bipush 16, 2) := by decide +kernel
theorem d_Integer_bitCount_45 : decode b_Integer_bitCount 45 = .ok (.iushr, 1) := by decide +kernel
theorem d_Integer_bitCount_46 : decode b_Integer_bitCount 46 = .ok (.iadd, 1) := by decide +kernel
theorem d_Integer_bitCount_47 : decode b_Integer_bitCount 47 = .ok (.istore_n 0, 1) := by decide +kernel
theorem d_Integer_bitCount_48 : decode b_Integer_bitCount 48 = .ok (.iload_n 0, 1) := by decide +kernel
theorem d_Integer_bitCount_49 : decode b_Integer_bitCount 49 = .ok (.bipush 63, 2) := by decide +kernel
theorem d_Integer_bitCount_51 : decode b_Integer_bitCount 51 = .ok (.iand, 1) := by decide +kernel
theorem d_Integer_bitCount_52 : decode b_Integer_bitCount 52 = .ok (.ireturn, 1) := by decide +kernel
theorem v_Integer_bitCount : dk_Ys y_Integer_bitCount b_Integer_bitCount 1 (some .int) 1 := ⟨dk_in (List.mem_of_getElem? (i := 842) (by decide +kernel)) rfl, dk_in (List.mem_of_getElem? (i := 83) (by decide +kernel)) rfl, dk_in (List.mem_of_getElem? (i := 843) (by decide +kernel)) rfl, by decide +kernel, by decide +kernel, by decide +kernel⟩
abbrev rm_Integer_bitCount : Room := { frames := 0, cells := 0, slots := 0, locals := 0 }
theorem k_Integer_265 : Cond.constant R_Integer 265 (1431655765) ∈ dk_tb := dk_in (List.mem_of_getElem? (i := 844) (by decide +kernel)) rfl
theorem k_Integer_266 : Cond.constant R_Integer 266 (858993459) ∈ dk_tb := dk_in (List.mem_of_getElem? (i := 845) (by decide +kernel)) rfl
theorem k_Integer_267 : Cond.constant R_Integer 267 (252645135) ∈ dk_tb := dk_in (List.mem_of_getElem? (i := 846) (by decide +kernel)) rfl
def B_Integer_bitCount_0 (n T : Nat)  (x0 : Int32) (S : dk_S) : Option (Int32 × dk_S) :=
  some (((((((((x0 - ((x0.toUInt32 >>> ((1 : Int32).toUInt32 &&& Int32.toUInt32 31)).toInt32 &&& (1431655765 : Int32))) &&& (858993459 : Int32)) + (((x0 - ((x0.toUInt32 >>> ((1 : Int32).toUInt32 &&& Int32.toUInt32 31)).toInt32 &&& (1431655765 : Int32))).toUInt32 >>> ((2 : Int32).toUInt32 &&& Int32.toUInt32 31)).toInt32 &&& (858993459 : Int32))) + ((((x0 - ((x0.toUInt32 >>> ((1 : Int32).toUInt32 &&& Int32.toUInt32 31)).toInt32 &&& (1431655765 : Int32))) &&& (858993459 : Int32)) + (((x0 - ((x0.toUInt32 >>> ((1 : Int32).toUInt32 &&& Int32.toUInt32 31)).toInt32 &&& (1431655765 : Int32))).toUInt32 >>> ((2 : Int32).toUInt32 &&& Int32.toUInt32 31)).toInt32 &&& (858993459 : Int32))).toUInt32 >>> ((4 : Int32).toUInt32 &&& Int32.toUInt32 31)).toInt32) &&& (252645135 : Int32)) + ((((((x0 - ((x0.toUInt32 >>> ((1 : Int32).toUInt32 &&& Int32.toUInt32 31)).toInt32 &&& (1431655765 : Int32))) &&& (858993459 : Int32)) + (((x0 - ((x0.toUInt32 >>> ((1 : Int32).toUInt32 &&& Int32.toUInt32 31)).toInt32 &&& (1431655765 : Int32))).toUInt32 >>> ((2 : Int32).toUInt32 &&& Int32.toUInt32 31)).toInt32 &&& (858993459 : Int32))) + ((((x0 - ((x0.toUInt32 >>> ((1 : Int32).toUInt32 &&& Int32.toUInt32 31)).toInt32 &&& (1431655765 : Int32))) &&& (858993459 : Int32)) + (((x0 - ((x0.toUInt32 >>> ((1 : Int32).toUInt32 &&& Int32.toUInt32 31)).toInt32 &&& (1431655765 : Int32))).toUInt32 >>> ((2 : Int32).toUInt32 &&& Int32.toUInt32 31)).toInt32 &&& (858993459 : Int32))).toUInt32 >>> ((4 : Int32).toUInt32 &&& Int32.toUInt32 31)).toInt32) &&& (252645135 : Int32)).toUInt32 >>> ((8 : Int32).toUInt32 &&& Int32.toUInt32 31)).toInt32) + (((((((x0 - ((x0.toUInt32 >>> ((1 : Int32).toUInt32 &&& Int32.toUInt32 31)).toInt32 &&& (1431655765 : Int32))) &&& (858993459 : Int32)) + (((x0 - ((x0.toUInt32 >>> ((1 : Int32).toUInt32 &&& Int32.toUInt32 31)).toInt32 &&& (1431655765 : Int32))).toUInt32 >>> ((2 : Int32).toUInt32 &&& Int32.toUInt32 31)).toInt32 &&& (858993459 : Int32))) + ((((x0 - ((x0.toUInt32 >>> ((1 : Int32).toUInt32 &&& Int32.toUInt32 31)).toInt32 &&& (1431655765 : Int32))) &&& (858993459 : Int32)) + (((x0 - ((x0.toUInt32 >>> ((1 : Int32).toUInt32 &&& Int32.toUInt32 31)).toInt32 &&& (1431655765 : Int32))).toUInt32 >>> ((2 : Int32).toUInt32 &&& Int32.toUInt32 31)).toInt32 &&& (858993459 : Int32))).toUInt32 >>> ((4 : Int32).toUInt32 &&& Int32.toUInt32 31)).toInt32) &&& (252645135 : Int32)) + ((((((x0 - ((x0.toUInt32 >>> ((1 : Int32).toUInt32 &&& Int32.toUInt32 31)).toInt32 &&& (1431655765 : Int32))) &&& (858993459 : Int32)) + (((x0 - ((x0.toUInt32 >>> ((1 : Int32).toUInt32 &&& Int32.toUInt32 31)).toInt32 &&& (1431655765 : Int32))).toUInt32 >>> ((2 : Int32).toUInt32 &&& Int32.toUInt32 31)).toInt32 &&& (858993459 : Int32))) + ((((x0 - ((x0.toUInt32 >>> ((1 : Int32).toUInt32 &&& Int32.toUInt32 31)).toInt32 &&& (1431655765 : Int32))) &&& (858993459 : Int32)) + (((x0 - ((x0.toUInt32 >>> ((1 : Int32).toUInt32 &&& Int32.toUInt32 31)).toInt32 &&& (1431655765 : Int32))).toUInt32 >>> ((2 : Int32).toUInt32 &&& Int32.toUInt32 31)).toInt32 &&& (858993459 : Int32))).toUInt32 >>> ((4 : Int32).toUInt32 &&& Int32.toUInt32 31)).toInt32) &&& (252645135 : Int32)).toUInt32 >>> ((8 : Int32).toUInt32 &&& Int32.toUInt32 31)).toInt32).toUInt32 >>> ((16 : Int32).toUInt32 &&& Int32.toUInt32 31)).toInt32) &&& (63 : Int32)), S)
set_option maxRecDepth 20000 in
theorem kb_Integer_bitCount_0 {p : Program} {l : Launch} {e : Env} {s : State} {m : MethodId} {args : Array Value} {below : List Frame} {meth : Method} {c : Code} {g : dk_G} {A : Nat → Prop} {Q : State → Prop} {ad : Nat → Nat} {T : Nat} {n : Nat} {res : (Int32 × dk_S)} (X : dk_X p s m args meth c b_Integer_bitCount 1 R_Integer (some .int) g A) (hR : dk_Ri p l e rm_Integer_bitCount s m args below meth c g A Q 1 b_Integer_bitCount (some .int) (wC g ad T) res)  {x0 : Int32} {S : dk_S}  (hF : B_Integer_bitCount_0 n T  x0 S = some res) : dk_J p l e rm_Integer_bitCount s m args below meth c g A Q 1 0 0 0 [(0, .int x0)] [] (wC g ad T S) := by
  unfold B_Integer_bitCount_0 at hF
  refine dk_iload_n (k := 0) (i := 0) X 0 rfl rfl d_Integer_bitCount_0 ?_
  refine dk_iload_n (k := 0) (i := 0) X 0 rfl rfl d_Integer_bitCount_1 ?_
  refine dk_iconst (v := 1) X (by decide) d_Integer_bitCount_2 ?_
  refine dk_iushr X d_Integer_bitCount_3 ?_
  refine dk_ldcw (v := 1431655765) X k_Integer_265 d_Integer_bitCount_4 ?_
  refine dk_iand X d_Integer_bitCount_7 ?_
  refine dk_isub X d_Integer_bitCount_8 ?_
  refine dk_istore_n (k := 0) (i := 0) (lv' := [(0, .int (x0 - ((x0.toUInt32 >>> ((1 : Int32).toUInt32 &&& Int32.toUInt32 31)).toInt32 &&& (1431655765 : Int32))))]) X rfl (by decide) rfl d_Integer_bitCount_9 ?_
  refine dk_iload_n (k := 0) (i := 0) X 0 rfl rfl d_Integer_bitCount_10 ?_
  refine dk_ldcw (v := 858993459) X k_Integer_266 d_Integer_bitCount_11 ?_
  refine dk_iand X d_Integer_bitCount_14 ?_
  refine dk_iload_n (k := 0) (i := 0) X 0 rfl rfl d_Integer_bitCount_15 ?_
  refine dk_iconst (v := 2) X (by decide) d_Integer_bitCount_16 ?_
  refine dk_iushr X d_Integer_bitCount_17 ?_
  refine dk_ldcw (v := 858993459) X k_Integer_266 d_Integer_bitCount_18 ?_
  refine dk_iand X d_Integer_bitCount_21 ?_
  refine dk_iadd X d_Integer_bitCount_22 ?_
  refine dk_istore_n (k := 0) (i := 0) (lv' := [(0, .int (((x0 - ((x0.toUInt32 >>> ((1 : Int32).toUInt32 &&& Int32.toUInt32 31)).toInt32 &&& (1431655765 : Int32))) &&& (858993459 : Int32)) + (((x0 - ((x0.toUInt32 >>> ((1 : Int32).toUInt32 &&& Int32.toUInt32 31)).toInt32 &&& (1431655765 : Int32))).toUInt32 >>> ((2 : Int32).toUInt32 &&& Int32.toUInt32 31)).toInt32 &&& (858993459 : Int32))))]) X rfl (by decide) rfl d_Integer_bitCount_23 ?_
  refine dk_iload_n (k := 0) (i := 0) X 0 rfl rfl d_Integer_bitCount_24 ?_
  refine dk_iload_n (k := 0) (i := 0) X 0 rfl rfl d_Integer_bitCount_25 ?_
  refine dk_iconst (v := 4) X (by decide) d_Integer_bitCount_26 ?_
  refine dk_iushr X d_Integer_bitCount_27 ?_
  refine dk_iadd X d_Integer_bitCount_28 ?_
  refine dk_ldcw (v := 252645135) X k_Integer_267 d_Integer_bitCount_29 ?_
  refine dk_iand X d_Integer_bitCount_32 ?_
  refine dk_istore_n (k := 0) (i := 0) (lv' := [(0, .int (((((x0 - ((x0.toUInt32 >>> ((1 : Int32).toUInt32 &&& Int32.toUInt32 31)).toInt32 &&& (1431655765 : Int32))) &&& (858993459 : Int32)) + (((x0 - ((x0.toUInt32 >>> ((1 : Int32).toUInt32 &&& Int32.toUInt32 31)).toInt32 &&& (1431655765 : Int32))).toUInt32 >>> ((2 : Int32).toUInt32 &&& Int32.toUInt32 31)).toInt32 &&& (858993459 : Int32))) + ((((x0 - ((x0.toUInt32 >>> ((1 : Int32).toUInt32 &&& Int32.toUInt32 31)).toInt32 &&& (1431655765 : Int32))) &&& (858993459 : Int32)) + (((x0 - ((x0.toUInt32 >>> ((1 : Int32).toUInt32 &&& Int32.toUInt32 31)).toInt32 &&& (1431655765 : Int32))).toUInt32 >>> ((2 : Int32).toUInt32 &&& Int32.toUInt32 31)).toInt32 &&& (858993459 : Int32))).toUInt32 >>> ((4 : Int32).toUInt32 &&& Int32.toUInt32 31)).toInt32) &&& (252645135 : Int32)))]) X rfl (by decide) rfl d_Integer_bitCount_33 ?_
  refine dk_iload_n (k := 0) (i := 0) X 0 rfl rfl d_Integer_bitCount_34 ?_
  refine dk_iload_n (k := 0) (i := 0) X 0 rfl rfl d_Integer_bitCount_35 ?_
  refine dk_bipush (v := 8) X (by decide) d_Integer_bitCount_36 ?_
  refine dk_iushr X d_Integer_bitCount_38 ?_
  refine dk_iadd X d_Integer_bitCount_39 ?_
  refine dk_istore_n (k := 0) (i := 0) (lv' := [(0, .int ((((((x0 - ((x0.toUInt32 >>> ((1 : Int32).toUInt32 &&& Int32.toUInt32 31)).toInt32 &&& (1431655765 : Int32))) &&& (858993459 : Int32)) + (((x0 - ((x0.toUInt32 >>> ((1 : Int32).toUInt32 &&& Int32.toUInt32 31)).toInt32 &&& (1431655765 : Int32))).toUInt32 >>> ((2 : Int32).toUInt32 &&& Int32.toUInt32 31)).toInt32 &&& (858993459 : Int32))) + ((((x0 - ((x0.toUInt32 >>> ((1 : Int32).toUInt32 &&& Int32.toUInt32 31)).toInt32 &&& (1431655765 : Int32))) &&& (858993459 : Int32)) + (((x0 - ((x0.toUInt32 >>> ((1 : Int32).toUInt32 &&& Int32.toUInt32 31)).toInt32 &&& (1431655765 : Int32))).toUInt32 >>> ((2 : Int32).toUInt32 &&& Int32.toUInt32 31)).toInt32 &&& (858993459 : Int32))).toUInt32 >>> ((4 : Int32).toUInt32 &&& Int32.toUInt32 31)).toInt32) &&& (252645135 : Int32)) + ((((((x0 - ((x0.toUInt32 >>> ((1 : Int32).toUInt32 &&& Int32.toUInt32 31)).toInt32 &&& (1431655765 : Int32))) &&& (858993459 : Int32)) + (((x0 - ((x0.toUInt32 >>> ((1 : Int32).toUInt32 &&& Int32.toUInt32 31)).toInt32 &&& (1431655765 : Int32))).toUInt32 >>> ((2 : Int32).toUInt32 &&& Int32.toUInt32 31)).toInt32 &&& (858993459 : Int32))) + ((((x0 - ((x0.toUInt32 >>> ((1 : Int32).toUInt32 &&& Int32.toUInt32 31)).toInt32 &&& (1431655765 : Int32))) &&& (858993459 : Int32)) + (((x0 - ((x0.toUInt32 >>> ((1 : Int32).toUInt32 &&& Int32.toUInt32 31)).toInt32 &&& (1431655765 : Int32))).toUInt32 >>> ((2 : Int32).toUInt32 &&& Int32.toUInt32 31)).toInt32 &&& (858993459 : Int32))).toUInt32 >>> ((4 : Int32).toUInt32 &&& Int32.toUInt32 31)).toInt32) &&& (252645135 : Int32)).toUInt32 >>> ((8 : Int32).toUInt32 &&& Int32.toUInt32 31)).toInt32))]) X rfl (by decide) rfl d_Integer_bitCount_40 ?_
  refine dk_iload_n (k := 0) (i := 0) X 0 rfl rfl d_Integer_bitCount_41 ?_
  refine dk_iload_n (k := 0) (i := 0) X 0 rfl rfl d_Integer_bitCount_42 ?_
  refine dk_bipush (v := 16) X (by decide) d_Integer_bitCount_43 ?_
  refine dk_iushr X d_Integer_bitCount_45 ?_
  refine dk_iadd X d_Integer_bitCount_46 ?_
  refine dk_istore_n (k := 0) (i := 0) (lv' := [(0, .int (((((((x0 - ((x0.toUInt32 >>> ((1 : Int32).toUInt32 &&& Int32.toUInt32 31)).toInt32 &&& (1431655765 : Int32))) &&& (858993459 : Int32)) + (((x0 - ((x0.toUInt32 >>> ((1 : Int32).toUInt32 &&& Int32.toUInt32 31)).toInt32 &&& (1431655765 : Int32))).toUInt32 >>> ((2 : Int32).toUInt32 &&& Int32.toUInt32 31)).toInt32 &&& (858993459 : Int32))) + ((((x0 - ((x0.toUInt32 >>> ((1 : Int32).toUInt32 &&& Int32.toUInt32 31)).toInt32 &&& (1431655765 : Int32))) &&& (858993459 : Int32)) + (((x0 - ((x0.toUInt32 >>> ((1 : Int32).toUInt32 &&& Int32.toUInt32 31)).toInt32 &&& (1431655765 : Int32))).toUInt32 >>> ((2 : Int32).toUInt32 &&& Int32.toUInt32 31)).toInt32 &&& (858993459 : Int32))).toUInt32 >>> ((4 : Int32).toUInt32 &&& Int32.toUInt32 31)).toInt32) &&& (252645135 : Int32)) + ((((((x0 - ((x0.toUInt32 >>> ((1 : Int32).toUInt32 &&& Int32.toUInt32 31)).toInt32 &&& (1431655765 : Int32))) &&& (858993459 : Int32)) + (((x0 - ((x0.toUInt32 >>> ((1 : Int32).toUInt32 &&& Int32.toUInt32 31)).toInt32 &&& (1431655765 : Int32))).toUInt32 >>> ((2 : Int32).toUInt32 &&& Int32.toUInt32 31)).toInt32 &&& (858993459 : Int32))) + ((((x0 - ((x0.toUInt32 >>> ((1 : Int32).toUInt32 &&& Int32.toUInt32 31)).toInt32 &&& (1431655765 : Int32))) &&& (858993459 : Int32)) + (((x0 - ((x0.toUInt32 >>> ((1 : Int32).toUInt32 &&& Int32.toUInt32 31)).toInt32 &&& (1431655765 : Int32))).toUInt32 >>> ((2 : Int32).toUInt32 &&& Int32.toUInt32 31)).toInt32 &&& (858993459 : Int32))).toUInt32 >>> ((4 : Int32).toUInt32 &&& Int32.toUInt32 31)).toInt32) &&& (252645135 : Int32)).toUInt32 >>> ((8 : Int32).toUInt32 &&& Int32.toUInt32 31)).toInt32) + (((((((x0 - ((x0.toUInt32 >>> ((1 : Int32).toUInt32 &&& Int32.toUInt32 31)).toInt32 &&& (1431655765 : Int32))) &&& (858993459 : Int32)) + (((x0 - ((x0.toUInt32 >>> ((1 : Int32).toUInt32 &&& Int32.toUInt32 31)).toInt32 &&& (1431655765 : Int32))).toUInt32 >>> ((2 : Int32).toUInt32 &&& Int32.toUInt32 31)).toInt32 &&& (858993459 : Int32))) + ((((x0 - ((x0.toUInt32 >>> ((1 : Int32).toUInt32 &&& Int32.toUInt32 31)).toInt32 &&& (1431655765 : Int32))) &&& (858993459 : Int32)) + (((x0 - ((x0.toUInt32 >>> ((1 : Int32).toUInt32 &&& Int32.toUInt32 31)).toInt32 &&& (1431655765 : Int32))).toUInt32 >>> ((2 : Int32).toUInt32 &&& Int32.toUInt32 31)).toInt32 &&& (858993459 : Int32))).toUInt32 >>> ((4 : Int32).toUInt32 &&& Int32.toUInt32 31)).toInt32) &&& (252645135 : Int32)) + ((((((x0 - ((x0.toUInt32 >>> ((1 : Int32).toUInt32 &&& Int32.toUInt32 31)).toInt32 &&& (1431655765 : Int32))) &&& (858993459 : Int32)) + (((x0 - ((x0.toUInt32 >>> ((1 : Int32).toUInt32 &&& Int32.toUInt32 31)).toInt32 &&& (1431655765 : Int32))).toUInt32 >>> ((2 : Int32).toUInt32 &&& Int32.toUInt32 31)).toInt32 &&& (858993459 : Int32))) + ((((x0 - ((x0.toUInt32 >>> ((1 : Int32).toUInt32 &&& Int32.toUInt32 31)).toInt32 &&& (1431655765 : Int32))) &&& (858993459 : Int32)) + (((x0 - ((x0.toUInt32 >>> ((1 : Int32).toUInt32 &&& Int32.toUInt32 31)).toInt32 &&& (1431655765 : Int32))).toUInt32 >>> ((2 : Int32).toUInt32 &&& Int32.toUInt32 31)).toInt32 &&& (858993459 : Int32))).toUInt32 >>> ((4 : Int32).toUInt32 &&& Int32.toUInt32 31)).toInt32) &&& (252645135 : Int32)).toUInt32 >>> ((8 : Int32).toUInt32 &&& Int32.toUInt32 31)).toInt32).toUInt32 >>> ((16 : Int32).toUInt32 &&& Int32.toUInt32 31)).toInt32))]) X rfl (by decide) rfl d_Integer_bitCount_47 ?_
  refine dk_iload_n (k := 0) (i := 0) X 0 rfl rfl d_Integer_bitCount_48 ?_
  refine dk_bipush (v := 63) X (by decide) d_Integer_bitCount_49 ?_
  refine dk_iand X d_Integer_bitCount_51 ?_
  exact dk_reti hR hF d_Integer_bitCount_52
def F_Integer_bitCount (n T : Nat) (x0 : Int32) (S : dk_S) : Option (Int32 × dk_S) := B_Integer_bitCount_0 n T x0 S
theorem c_Integer_bitCount (l : Launch) (g : dk_G) (ad : Nat → Nat) (T n : Nat) (x0 : Int32)  (S : dk_S) : dk_Mi l g y_Integer_bitCount b_Integer_bitCount 1 rm_Integer_bitCount (some .int) [.int x0] (wC g ad T) S (F_Integer_bitCount n T x0 S) := dk_enteri (by decide) (Nat.le_of_ble_eq_true rfl) (fun p e s m args below meth c A Q res hF X hR => (kb_Integer_bitCount_0 (n := n) X hR  hF))
abbrev b_Sheet_isMissing : ByteArray := prog_8_method_2_code
def y_Sheet_isMissing : MethodName := ⟨R_Sheet, "isMissing", "()Z"⟩
theorem d_Sheet_isMissing_0 : decode b_Sheet_isMissing 0 = .ok (.aload_n 0, 1) := by decide +kernel
theorem d_Sheet_isMissing_1 : decode b_Sheet_isMissing 1 = .ok (.getfield 15, 3) := by decide +kernel
theorem d_Sheet_isMissing_4 : decode b_Sheet_isMissing 4 = .ok (.iconst (-1), 1) := by decide +kernel
theorem d_Sheet_isMissing_5 : decode b_Sheet_isMissing 5 = .ok (.if_icmp .ne 7, 3) := by decide +kernel
theorem d_Sheet_isMissing_8 : decode b_Sheet_isMissing 8 = .ok (.iconst 1, 1) := by decide +kernel
theorem d_Sheet_isMissing_9 : decode b_Sheet_isMissing 9 = .ok (.goto 4, 3) := by decide +kernel
theorem d_Sheet_isMissing_12 : decode b_Sheet_isMissing 12 = .ok (.iconst 0, 1) := by decide +kernel
theorem d_Sheet_isMissing_13 : decode b_Sheet_isMissing 13 = .ok (.ireturn, 1) := by decide +kernel
theorem v_Sheet_isMissing : dk_Yv y_Sheet_isMissing b_Sheet_isMissing 1 (some .boolean) 0 := ⟨dk_in (List.mem_of_getElem? (i := 816) (by decide +kernel)) rfl, dk_in (List.mem_of_getElem? (i := 817) (by decide +kernel)) rfl, dk_in (List.mem_of_getElem? (i := 73) (by decide +kernel)) rfl, dk_in (List.mem_of_getElem? (i := 818) (by decide +kernel)) rfl, by decide +kernel, by decide +kernel, by decide +kernel⟩
abbrev rm_Sheet_isMissing : Room := { frames := 0, cells := 0, slots := 0, locals := 0 }
theorem f_Sheet_15 : Cond.fieldLink R_Sheet 15 (T_Sheet 1).1 (T_Sheet 1).2.1 (T_Sheet 1).2.2.1 ∈ dk_tb := dk_in (List.mem_of_getElem? (i := 334) (by decide +kernel)) rfl
def B_Sheet_isMissing_0 (n T : Nat)  (jx0 : Nat) (S : dk_S) : Option (Int32 × dk_S) :=
  if ¬ (S (160 + jx0) 0) = (-1 : Int32) then (dk_b (0 : Int32) (some ((0 : Int32), S))) else (dk_b (1 : Int32) (some ((1 : Int32), S)))
set_option maxRecDepth 20000 in
theorem kb_Sheet_isMissing_0 {p : Program} {l : Launch} {e : Env} {s : State} {m : MethodId} {args : Array Value} {below : List Frame} {meth : Method} {c : Code} {g : dk_G} {A : Nat → Prop} {Q : State → Prop} {ad : Nat → Nat} {T : Nat} {n : Nat} {res : (Int32 × dk_S)} (X : dk_X p s m args meth c b_Sheet_isMissing 1 R_Sheet (some .boolean) g A) (hR : dk_Ri p l e rm_Sheet_isMissing s m args below meth c g A Q 1 b_Sheet_isMissing (some .boolean) (wC g ad T) res)  {jx0 : Nat} {S : dk_S} (hx0 : jx0 < 4) (hF : B_Sheet_isMissing_0 n T  jx0 S = some res) : dk_J p l e rm_Sheet_isMissing s m args below meth c g A Q 1 0 0 0 [(0, .ref (ad (35 + 2 * jx0)))] [] (wC g ad T S) := by
  unfold B_Sheet_isMissing_0 at hF
  refine dk_aload_n (k := 0) (i := 0) X 0 rfl rfl d_Sheet_isMissing_0 ?_
  refine dk_get X q_Sheet (35 + 2 * jx0) 1 (by decide) (oC_Sheet g ad T S jx0 hx0) rfl f_Sheet_15 d_Sheet_isMissing_1 ?_
  refine dk_iconst (v := -1) X (by decide) d_Sheet_isMissing_4 ?_
  refine dk_icmp_ne (tgt := 12) X (by decide) d_Sheet_isMissing_5 hF (fun hF => ?_) (fun hF => ?_)
  · refine dk_iconst (v := 0) X (by decide) d_Sheet_isMissing_12 ?_
    exact dk_retz hR hF d_Sheet_isMissing_13
  · refine dk_iconst (v := 1) X (by decide) d_Sheet_isMissing_8 ?_
    refine dk_goto (tgt := 13) X (by decide) d_Sheet_isMissing_9 ?_
    exact dk_retz hR hF d_Sheet_isMissing_13
def F_Sheet_isMissing (n T : Nat) (jx0 : Nat) (S : dk_S) : Option (Int32 × dk_S) := B_Sheet_isMissing_0 n T jx0 S
theorem c_Sheet_isMissing (l : Launch) (g : dk_G) (ad : Nat → Nat) (T n : Nat) (jx0 : Nat) (hx0 : jx0 < 4) (S : dk_S) : dk_Mi l g y_Sheet_isMissing b_Sheet_isMissing 1 rm_Sheet_isMissing (some .boolean) [.ref (ad (35 + 2 * jx0))] (wC g ad T) S (F_Sheet_isMissing n T jx0 S) := dk_enteri (by decide) (Nat.le_of_ble_eq_true rfl) (fun p e s m args below meth c A Q res hF X hR => (kb_Sheet_isMissing_0 (n := n) X hR hx0 hF))
abbrev b_Sheet_has : ByteArray := prog_8_method_3_code
def y_Sheet_has : MethodName := ⟨R_Sheet, "has", "(I)Z"⟩
theorem d_Sheet_has_0 : decode b_Sheet_has 0 = .ok (.iload_n 1, 1) := by decide +kernel
theorem d_Sheet_has_1 : decode b_Sheet_has 1 = .ok (.ifCond .lt 15, 3) := by decide +kernel
theorem d_Sheet_has_4 : decode b_Sheet_has 4 = .ok (.iload_n 1, 1) := by decide +kernel
theorem d_Sheet_has_5 : decode b_Sheet_has 5 = .ok (.aload_n 0, 1) := by decide +kernel
theorem d_Sheet_has_6 : decode b_Sheet_has 6 = .ok (.getfield 19, 3) := by decide +kernel
theorem d_Sheet_has_9 : decode b_Sheet_has 9 = .ok (.if_icmp .ge 7, 3) := by decide +kernel
theorem d_Sheet_has_12 : decode b_Sheet_has 12 = .ok (.iconst 1, 1) := by decide +kernel
theorem d_Sheet_has_13 : decode b_Sheet_has 13 = .ok (.goto 4, 3) := by decide +kernel
theorem d_Sheet_has_16 : decode b_Sheet_has 16 = .ok (.iconst 0, 1) := by decide +kernel
theorem d_Sheet_has_17 : decode b_Sheet_has 17 = .ok (.ireturn, 1) := by decide +kernel
theorem v_Sheet_has : dk_Yv y_Sheet_has b_Sheet_has 2 (some .boolean) 1 := ⟨dk_in (List.mem_of_getElem? (i := 901) (by decide +kernel)) rfl, dk_in (List.mem_of_getElem? (i := 902) (by decide +kernel)) rfl, dk_in (List.mem_of_getElem? (i := 73) (by decide +kernel)) rfl, dk_in (List.mem_of_getElem? (i := 903) (by decide +kernel)) rfl, by decide +kernel, by decide +kernel, by decide +kernel⟩
abbrev rm_Sheet_has : Room := { frames := 0, cells := 0, slots := 0, locals := 0 }
theorem f_Sheet_19 : Cond.fieldLink R_Sheet 19 (T_Sheet 2).1 (T_Sheet 2).2.1 (T_Sheet 2).2.2.1 ∈ dk_tb := dk_in (List.mem_of_getElem? (i := 336) (by decide +kernel)) rfl
def B_Sheet_has_0 (n T : Nat)  (jx0 : Nat) (x1 : Int32) (S : dk_S) : Option (Int32 × dk_S) :=
  if x1 < 0 then (dk_b (0 : Int32) (some ((0 : Int32), S))) else (if (S (170 + jx0) 0) ≤ x1 then (dk_b (0 : Int32) (some ((0 : Int32), S))) else (dk_b (1 : Int32) (some ((1 : Int32), S))))
set_option maxRecDepth 20000 in
theorem kb_Sheet_has_0 {p : Program} {l : Launch} {e : Env} {s : State} {m : MethodId} {args : Array Value} {below : List Frame} {meth : Method} {c : Code} {g : dk_G} {A : Nat → Prop} {Q : State → Prop} {ad : Nat → Nat} {T : Nat} {n : Nat} {res : (Int32 × dk_S)} (X : dk_X p s m args meth c b_Sheet_has 2 R_Sheet (some .boolean) g A) (hR : dk_Ri p l e rm_Sheet_has s m args below meth c g A Q 2 b_Sheet_has (some .boolean) (wC g ad T) res)  {jx0 : Nat} {x1 : Int32} {S : dk_S} (hx0 : jx0 < 4) (hF : B_Sheet_has_0 n T  jx0 x1 S = some res) : dk_J p l e rm_Sheet_has s m args below meth c g A Q 2 0 0 0 [(0, .ref (ad (35 + 2 * jx0))), (1, .int x1)] [] (wC g ad T S) := by
  unfold B_Sheet_has_0 at hF
  refine dk_iload_n (k := 1) (i := 1) X 1 rfl rfl d_Sheet_has_0 ?_
  refine dk_if_lt (tgt := 16) X (by decide) d_Sheet_has_1 hF (fun hF => ?_) (fun hF => ?_)
  · refine dk_iconst (v := 0) X (by decide) d_Sheet_has_16 ?_
    exact dk_retz hR hF d_Sheet_has_17
  · refine dk_iload_n (k := 1) (i := 1) X 1 rfl rfl d_Sheet_has_4 ?_
    refine dk_aload_n (k := 0) (i := 0) X 0 rfl rfl d_Sheet_has_5 ?_
    refine dk_get X q_Sheet (35 + 2 * jx0) 2 (by decide) (oC_Sheet g ad T S jx0 hx0) rfl f_Sheet_19 d_Sheet_has_6 ?_
    refine dk_icmp_ge (tgt := 16) X (by decide) d_Sheet_has_9 hF (fun hF => ?_) (fun hF => ?_)
    · refine dk_iconst (v := 0) X (by decide) d_Sheet_has_16 ?_
      exact dk_retz hR hF d_Sheet_has_17
    · refine dk_iconst (v := 1) X (by decide) d_Sheet_has_12 ?_
      refine dk_goto (tgt := 17) X (by decide) d_Sheet_has_13 ?_
      exact dk_retz hR hF d_Sheet_has_17
def F_Sheet_has (n T : Nat) (jx0 : Nat) (x1 : Int32) (S : dk_S) : Option (Int32 × dk_S) := B_Sheet_has_0 n T jx0 x1 S
theorem c_Sheet_has (l : Launch) (g : dk_G) (ad : Nat → Nat) (T n : Nat) (jx0 : Nat) (x1 : Int32) (hx0 : jx0 < 4) (S : dk_S) : dk_Mi l g y_Sheet_has b_Sheet_has 2 rm_Sheet_has (some .boolean) [.ref (ad (35 + 2 * jx0)), .int x1] (wC g ad T) S (F_Sheet_has n T jx0 x1 S) := dk_enteri (by decide) (Nat.le_of_ble_eq_true rfl) (fun p e s m args below meth c A Q res hF X hR => (kb_Sheet_has_0 (n := n) X hR hx0 hF))
abbrev b_Sheet_hasRun : ByteArray := prog_8_method_4_code
def y_Sheet_hasRun : MethodName := ⟨R_Sheet, "hasRun", "(II)Z"⟩
theorem d_Sheet_hasRun_0 : decode b_Sheet_hasRun 0 = .ok (.iload_n 1, 1) := by decide +kernel
theorem d_Sheet_hasRun_1 : decode b_Sheet_hasRun 1 = .ok (.ifCond .lt 29, 3) := by decide +kernel
theorem d_Sheet_hasRun_4 : decode b_Sheet_hasRun 4 = .ok (.iload_n 2, 1) := by decide +kernel
theorem d_Sheet_hasRun_5 : decode b_Sheet_hasRun 5 = .ok (.ifCond .lt 25, 3) := by decide +kernel
theorem d_Sheet_hasRun_8 : decode b_Sheet_hasRun 8 = .ok (.iload_n 1, 1) := by decide +kernel
theorem d_Sheet_hasRun_9 : decode b_Sheet_hasRun 9 = .ok (.aload_n 0, 1) := by decide +kernel
theorem d_Sheet_hasRun_10 : decode b_Sheet_hasRun 10 = .ok (.getfield 19, 3) := by decide +kernel
theorem d_Sheet_hasRun_13 : decode b_Sheet_hasRun 13 = .ok (.if_icmp .gt 17, 3) := by decide +kernel
theorem d_Sheet_hasRun_16 : decode b_Sheet_hasRun 16 = .ok (.iload_n 2, 1) := by decide +kernel
theorem d_Sheet_hasRun_17 : decode b_Sheet_hasRun 17 = .ok (.aload_n 0, 1) := by decide +kernel
theorem d_Sheet_hasRun_18 : decode b_Sheet_hasRun 18 = .ok (.getfield 19, 3) := by decide +kernel
theorem d_Sheet_hasRun_21 : decode b_Sheet_hasRun 21 = .ok (.iload_n 1, 1) := by decide +kernel
theorem d_Sheet_hasRun_22 : decode b_Sheet_hasRun 22 = .ok (.isub, 1) := by decide +kernel
theorem d_Sheet_hasRun_23 : decode b_Sheet_hasRun 23 = .ok (.if_icmp .gt 7, 3) := by decide +kernel
theorem d_Sheet_hasRun_26 : decode b_Sheet_hasRun 26 = .ok (.iconst 1, 1) := by decide +kernel
theorem d_Sheet_hasRun_27 : decode b_Sheet_hasRun 27 = .ok (.goto 4, 3) := by decide +kernel
theorem d_Sheet_hasRun_30 : decode b_Sheet_hasRun 30 = .ok (.iconst 0, 1) := by decide +kernel
theorem d_Sheet_hasRun_31 : decode b_Sheet_hasRun 31 = .ok (.ireturn, 1) := by decide +kernel
theorem v_Sheet_hasRun : dk_Yv y_Sheet_hasRun b_Sheet_hasRun 3 (some .boolean) 2 := ⟨dk_in (List.mem_of_getElem? (i := 913) (by decide +kernel)) rfl, dk_in (List.mem_of_getElem? (i := 914) (by decide +kernel)) rfl, dk_in (List.mem_of_getElem? (i := 73) (by decide +kernel)) rfl, dk_in (List.mem_of_getElem? (i := 915) (by decide +kernel)) rfl, by decide +kernel, by decide +kernel, by decide +kernel⟩
abbrev rm_Sheet_hasRun : Room := { frames := 0, cells := 0, slots := 0, locals := 0 }
def B_Sheet_hasRun_0 (n T : Nat)  (jx0 : Nat) (x1 : Int32) (x2 : Int32) (S : dk_S) : Option (Int32 × dk_S) :=
  if x1 < 0 then (dk_b (0 : Int32) (some ((0 : Int32), S))) else (if x2 < 0 then (dk_b (0 : Int32) (some ((0 : Int32), S))) else (if (S (170 + jx0) 0) < x1 then (dk_b (0 : Int32) (some ((0 : Int32), S))) else (if ((S (170 + jx0) 0) - x1) < x2 then (dk_b (0 : Int32) (some ((0 : Int32), S))) else (dk_b (1 : Int32) (some ((1 : Int32), S))))))
set_option maxRecDepth 20000 in
theorem kb_Sheet_hasRun_0 {p : Program} {l : Launch} {e : Env} {s : State} {m : MethodId} {args : Array Value} {below : List Frame} {meth : Method} {c : Code} {g : dk_G} {A : Nat → Prop} {Q : State → Prop} {ad : Nat → Nat} {T : Nat} {n : Nat} {res : (Int32 × dk_S)} (X : dk_X p s m args meth c b_Sheet_hasRun 3 R_Sheet (some .boolean) g A) (hR : dk_Ri p l e rm_Sheet_hasRun s m args below meth c g A Q 3 b_Sheet_hasRun (some .boolean) (wC g ad T) res)  {jx0 : Nat} {x1 : Int32} {x2 : Int32} {S : dk_S} (hx0 : jx0 < 4) (hF : B_Sheet_hasRun_0 n T  jx0 x1 x2 S = some res) : dk_J p l e rm_Sheet_hasRun s m args below meth c g A Q 3 0 0 0 [(0, .ref (ad (35 + 2 * jx0))), (1, .int x1), (2, .int x2)] [] (wC g ad T S) := by
  unfold B_Sheet_hasRun_0 at hF
  refine dk_iload_n (k := 1) (i := 1) X 1 rfl rfl d_Sheet_hasRun_0 ?_
  refine dk_if_lt (tgt := 30) X (by decide) d_Sheet_hasRun_1 hF (fun hF => ?_) (fun hF => ?_)
  · refine dk_iconst (v := 0) X (by decide) d_Sheet_hasRun_30 ?_
    exact dk_retz hR hF d_Sheet_hasRun_31
  · refine dk_iload_n (k := 2) (i := 2) X 2 rfl rfl d_Sheet_hasRun_4 ?_
    refine dk_if_lt (tgt := 30) X (by decide) d_Sheet_hasRun_5 hF (fun hF => ?_) (fun hF => ?_)
    · refine dk_iconst (v := 0) X (by decide) d_Sheet_hasRun_30 ?_
      exact dk_retz hR hF d_Sheet_hasRun_31
    · refine dk_iload_n (k := 1) (i := 1) X 1 rfl rfl d_Sheet_hasRun_8 ?_
      refine dk_aload_n (k := 0) (i := 0) X 0 rfl rfl d_Sheet_hasRun_9 ?_
      refine dk_get X q_Sheet (35 + 2 * jx0) 2 (by decide) (oC_Sheet g ad T S jx0 hx0) rfl f_Sheet_19 d_Sheet_hasRun_10 ?_
      refine dk_icmp_gt (tgt := 30) X (by decide) d_Sheet_hasRun_13 hF (fun hF => ?_) (fun hF => ?_)
      · refine dk_iconst (v := 0) X (by decide) d_Sheet_hasRun_30 ?_
        exact dk_retz hR hF d_Sheet_hasRun_31
      · refine dk_iload_n (k := 2) (i := 2) X 2 rfl rfl d_Sheet_hasRun_16 ?_
        refine dk_aload_n (k := 0) (i := 0) X 0 rfl rfl d_Sheet_hasRun_17 ?_
        refine dk_get X q_Sheet (35 + 2 * jx0) 2 (by decide) (oC_Sheet g ad T S jx0 hx0) rfl f_Sheet_19 d_Sheet_hasRun_18 ?_
        refine dk_iload_n (k := 1) (i := 1) X 1 rfl rfl d_Sheet_hasRun_21 ?_
        refine dk_isub X d_Sheet_hasRun_22 ?_
        refine dk_icmp_gt (tgt := 30) X (by decide) d_Sheet_hasRun_23 hF (fun hF => ?_) (fun hF => ?_)
        · refine dk_iconst (v := 0) X (by decide) d_Sheet_hasRun_30 ?_
          exact dk_retz hR hF d_Sheet_hasRun_31
        · refine dk_iconst (v := 1) X (by decide) d_Sheet_hasRun_26 ?_
          refine dk_goto (tgt := 31) X (by decide) d_Sheet_hasRun_27 ?_
          exact dk_retz hR hF d_Sheet_hasRun_31
def F_Sheet_hasRun (n T : Nat) (jx0 : Nat) (x1 : Int32) (x2 : Int32) (S : dk_S) : Option (Int32 × dk_S) := B_Sheet_hasRun_0 n T jx0 x1 x2 S
theorem c_Sheet_hasRun (l : Launch) (g : dk_G) (ad : Nat → Nat) (T n : Nat) (jx0 : Nat) (x1 : Int32) (x2 : Int32) (hx0 : jx0 < 4) (S : dk_S) : dk_Mi l g y_Sheet_hasRun b_Sheet_hasRun 3 rm_Sheet_hasRun (some .boolean) [.ref (ad (35 + 2 * jx0)), .int x1, .int x2] (wC g ad T) S (F_Sheet_hasRun n T jx0 x1 x2 S) := dk_enteri (by decide) (Nat.le_of_ble_eq_true rfl) (fun p e s m args below meth c A Q res hF X hR => (kb_Sheet_hasRun_0 (n := n) X hR hx0 hF))
abbrev b_Sheet_become : ByteArray := prog_8_method_5_code
def y_Sheet_become : MethodName := ⟨R_Sheet, "become", "(II)V"⟩
theorem d_Sheet_become_0 : decode b_Sheet_become 0 = .ok (.aload_n 0, 1) := by decide +kernel
theorem d_Sheet_become_1 : decode b_Sheet_become 1 = .ok (.iload_n 1, 1) := by decide +kernel
theorem d_Sheet_become_2 : decode b_Sheet_become 2 = .ok (.putfield 15, 3) := by decide +kernel
theorem d_Sheet_become_5 : decode b_Sheet_become 5 = .ok (.aload_n 0, 1) := by decide +kernel
theorem d_Sheet_become_6 : decode b_Sheet_become 6 = .ok (.iload_n 2, 1) := by decide +kernel
theorem d_Sheet_become_7 : decode b_Sheet_become 7 = .ok (.putfield 19, 3) := by decide +kernel
theorem d_Sheet_become_10 : decode b_Sheet_become 10 = .ok (.aload_n 0, 1) := by decide +kernel
theorem d_Sheet_become_11 : decode b_Sheet_become 11 = .ok (.getfield 9, 3) := by decide +kernel
theorem d_Sheet_become_14 : decode b_Sheet_become 14 = .ok (.iconst 0, 1) := by decide +kernel
theorem d_Sheet_become_15 : decode b_Sheet_become 15 = .ok (.invokestatic 22, 3) := by decide +kernel
theorem d_Sheet_become_18 : decode b_Sheet_become 18 = .ok (.return_, 1) := by decide +kernel
theorem v_Sheet_become : dk_Yv y_Sheet_become b_Sheet_become 3 (none) 2 := ⟨dk_in (List.mem_of_getElem? (i := 890) (by decide +kernel)) rfl, dk_in (List.mem_of_getElem? (i := 891) (by decide +kernel)) rfl, dk_in (List.mem_of_getElem? (i := 73) (by decide +kernel)) rfl, dk_in (List.mem_of_getElem? (i := 892) (by decide +kernel)) rfl, by decide +kernel, by decide +kernel, by decide +kernel⟩
abbrev rm_Sheet_become : Room := { frames := 1, cells := 0, slots := 0, locals := 23 }
theorem f_Sheet_9 : Cond.fieldLink R_Sheet 9 (T_Sheet 0).1 (T_Sheet 0).2.1 (T_Sheet 0).2.2.1 ∈ dk_tb := dk_in (List.mem_of_getElem? (i := 332) (by decide +kernel)) rfl
theorem m_Sheet_22 : Cond.methodLink R_Sheet 22 y_Arrays_fill ∈ dk_tb := dk_in (List.mem_of_getElem? (i := 893) (by decide +kernel)) rfl
def B_Sheet_become_0 (n T : Nat)  (jx0 : Nat) (x1 : Int32) (x2 : Int32) (S : dk_S) : Option dk_S :=
  dk_p S (160 + jx0) x1 fun S1 => dk_p S1 (170 + jx0) x2 fun S2 => dk_cv (F_Arrays_fill n T jx0 (0 : Int32) S2) fun S3 => some S3
set_option maxRecDepth 20000 in
theorem kb_Sheet_become_0 {p : Program} {l : Launch} {e : Env} {s : State} {m : MethodId} {args : Array Value} {below : List Frame} {meth : Method} {c : Code} {g : dk_G} {A : Nat → Prop} {Q : State → Prop} {ad : Nat → Nat} {T : Nat} {n : Nat} {res : dk_S} (X : dk_X p s m args meth c b_Sheet_become 3 R_Sheet (none) g A) (hR : dk_Rv p l e rm_Sheet_become s m args below meth c g A Q 3 b_Sheet_become (none) (wC g ad T) res)  {jx0 : Nat} {x1 : Int32} {x2 : Int32} {S : dk_S} (hx0 : jx0 < 4) (hF : B_Sheet_become_0 n T  jx0 x1 x2 S = some res) : dk_J p l e rm_Sheet_become s m args below meth c g A Q 3 0 0 0 [(0, .ref (ad (35 + 2 * jx0))), (1, .int x1), (2, .int x2)] [] (wC g ad T S) := by
  unfold B_Sheet_become_0 at hF
  refine dk_aload_n (k := 0) (i := 0) X 0 rfl rfl d_Sheet_become_0 ?_
  refine dk_iload_n (k := 1) (i := 1) X 1 rfl rfl d_Sheet_become_1 ?_
  refine dk_puti X q_Sheet (35 + 2 * jx0) 1 (by decide) (oC_Sheet g ad T S jx0 hx0) f_Sheet_15 rfl rfl (Nat.le_of_ble_eq_true rfl) (sC_Sheet_sort g ad T S jx0 hx0 _) d_Sheet_become_2 hF (fun S1 hF => ?_)
  refine dk_aload_n (k := 0) (i := 0) X 0 rfl rfl d_Sheet_become_5 ?_
  refine dk_iload_n (k := 2) (i := 2) X 2 rfl rfl d_Sheet_become_6 ?_
  refine dk_puti X q_Sheet (35 + 2 * jx0) 2 (by decide) (oC_Sheet g ad T S1 jx0 hx0) f_Sheet_19 rfl rfl (Nat.le_of_ble_eq_true rfl) (sC_Sheet_size g ad T S1 jx0 hx0 _) d_Sheet_become_7 hF (fun S2 hF => ?_)
  refine dk_aload_n (k := 0) (i := 0) X 0 rfl rfl d_Sheet_become_10 ?_
  refine dk_get X q_Sheet (35 + 2 * jx0) 0 (by decide) (oC_Sheet g ad T S2 jx0 hx0) rfl f_Sheet_9 d_Sheet_become_11 ?_
  refine dk_iconst (v := 0) X (by decide) d_Sheet_become_14 ?_
  refine dk_callSv X v_Arrays_fill [.ref (ad (36 + 2 * jx0)), .int (0 : Int32)] (c_Arrays_fill l g ad T n jx0 (0 : Int32) hx0 S2) m_Sheet_22 rfl rfl ⟨rfl, rfl, Nat.le_of_ble_eq_true rfl, Nat.le_of_ble_eq_true rfl, Nat.le_refl _, Nat.le_refl _⟩ (Nat.le_of_ble_eq_true rfl) d_Sheet_become_15 hF (fun S3 hF => ?_)
  exact dk_retv hR hF d_Sheet_become_18
def F_Sheet_become (n T : Nat) (jx0 : Nat) (x1 : Int32) (x2 : Int32) (S : dk_S) : Option dk_S := B_Sheet_become_0 n T jx0 x1 x2 S
theorem c_Sheet_become (l : Launch) (g : dk_G) (ad : Nat → Nat) (T n : Nat) (jx0 : Nat) (x1 : Int32) (x2 : Int32) (hx0 : jx0 < 4) (S : dk_S) : dk_Mv l g y_Sheet_become b_Sheet_become 3 rm_Sheet_become (none) [.ref (ad (35 + 2 * jx0)), .int x1, .int x2] (wC g ad T) S (F_Sheet_become n T jx0 x1 x2 S) := dk_enterv (by decide) rfl (Nat.le_of_ble_eq_true rfl) (fun p e s m args below meth c A Q res hF X hR => (kb_Sheet_become_0 (n := n) X hR hx0 hF))
abbrev b_Sheet_put : ByteArray := prog_8_method_6_code
def y_Sheet_put : MethodName := ⟨R_Sheet, "put", "(II)V"⟩
theorem d_Sheet_put_0 : decode b_Sheet_put 0 = .ok (.aload_n 0, 1) := by decide +kernel
theorem d_Sheet_put_1 : decode b_Sheet_put 1 = .ok (.getfield 15, 3) := by decide +kernel
theorem d_Sheet_put_4 : decode b_Sheet_put 4 = .ok (.lookupswitch 50 #[(0, 28), (1, 39)], 28) := by decide +kernel
theorem d_Sheet_put_32 : decode b_Sheet_put 32 = .ok (.aload_n 0, 1) := by decide +kernel
theorem d_Sheet_put_33 : decode b_Sheet_put 33 = .ok (.getfield 9, 3) := by decide +kernel
theorem d_Sheet_put_36 : decode b_Sheet_put 36 = .ok (.iload_n 1, 1) := by decide +kernel
theorem d_Sheet_put_37 : decode b_Sheet_put 37 = .ok (.iload_n 2, 1) := by decide +kernel
theorem d_Sheet_put_38 : decode b_Sheet_put 38 = .ok (.i2b, 1) := by decide +kernel
theorem d_Sheet_put_39 : decode b_Sheet_put 39 = .ok (.iastore, 1) := by decide +kernel
theorem d_Sheet_put_40 : decode b_Sheet_put 40 = .ok (.goto 21, 3) := by decide +kernel
theorem d_Sheet_put_43 : decode b_Sheet_put 43 = .ok (.aload_n 0, 1) := by decide +kernel
theorem d_Sheet_put_44 : decode b_Sheet_put 44 = .ok (.getfield 9, 3) := by decide +kernel
theorem d_Sheet_put_47 : decode b_Sheet_put 47 = .ok (.iload_n 1, 1) := by decide +kernel
theorem d_Sheet_put_48 : decode b_Sheet_put 48 = .ok (.iload_n 2, 1) := by decide +kernel
theorem d_Sheet_put_49 : decode b_Sheet_put 49 = .ok (.i2s, 1) := by decide +kernel
theorem d_Sheet_put_50 : decode b_Sheet_put 50 = .ok (.iastore, 1) := by decide +kernel
theorem d_Sheet_put_51 : decode b_Sheet_put 51 = .ok (.goto 10, 3) := by decide +kernel
theorem d_Sheet_put_54 : decode b_Sheet_put 54 = .ok (.aload_n 0, 1) := by decide +kernel
theorem d_Sheet_put_55 : decode b_Sheet_put 55 = .ok (.getfield 9, 3) := by decide +kernel
theorem d_Sheet_put_58 : decode b_Sheet_put 58 = .ok (.iload_n 1, 1) := by decide +kernel
theorem d_Sheet_put_59 : decode b_Sheet_put 59 = .ok (.iload_n 2, 1) := by decide +kernel
theorem d_Sheet_put_60 : decode b_Sheet_put 60 = .ok (.iastore, 1) := by decide +kernel
theorem d_Sheet_put_61 : decode b_Sheet_put 61 = .ok (.return_, 1) := by decide +kernel
theorem v_Sheet_put : dk_Yv y_Sheet_put b_Sheet_put 3 (none) 2 := ⟨dk_in (List.mem_of_getElem? (i := 905) (by decide +kernel)) rfl, dk_in (List.mem_of_getElem? (i := 906) (by decide +kernel)) rfl, dk_in (List.mem_of_getElem? (i := 73) (by decide +kernel)) rfl, dk_in (List.mem_of_getElem? (i := 907) (by decide +kernel)) rfl, by decide +kernel, by decide +kernel, by decide +kernel⟩
abbrev rm_Sheet_put : Room := { frames := 0, cells := 0, slots := 0, locals := 0 }
def B_Sheet_put_0 (n T : Nat)  (jx0 : Nat) (x1 : Int32) (x2 : Int32) (S : dk_S) : Option dk_S :=
  if (S (160 + jx0) 0) = (0 : Int32) then (dk_w S (36 + 2 * jx0) 40 x1 x2.toInt8.toInt32 fun S1 => some S1) else (if (S (160 + jx0) 0) = (1 : Int32) then (dk_w S (36 + 2 * jx0) 40 x1 x2.toInt16.toInt32 fun S2 => some S2) else (dk_w S (36 + 2 * jx0) 40 x1 x2 fun S3 => some S3))
set_option maxRecDepth 20000 in
theorem kb_Sheet_put_0 {p : Program} {l : Launch} {e : Env} {s : State} {m : MethodId} {args : Array Value} {below : List Frame} {meth : Method} {c : Code} {g : dk_G} {A : Nat → Prop} {Q : State → Prop} {ad : Nat → Nat} {T : Nat} {n : Nat} {res : dk_S} (X : dk_X p s m args meth c b_Sheet_put 3 R_Sheet (none) g A) (hR : dk_Rv p l e rm_Sheet_put s m args below meth c g A Q 3 b_Sheet_put (none) (wC g ad T) res)  {jx0 : Nat} {x1 : Int32} {x2 : Int32} {S : dk_S} (hx0 : jx0 < 4) (hF : B_Sheet_put_0 n T  jx0 x1 x2 S = some res) : dk_J p l e rm_Sheet_put s m args below meth c g A Q 3 0 0 0 [(0, .ref (ad (35 + 2 * jx0))), (1, .int x1), (2, .int x2)] [] (wC g ad T S) := by
  unfold B_Sheet_put_0 at hF
  refine dk_aload_n (k := 0) (i := 0) X 0 rfl rfl d_Sheet_put_0 ?_
  refine dk_get X q_Sheet (35 + 2 * jx0) 1 (by decide) (oC_Sheet g ad T S jx0 hx0) rfl f_Sheet_15 d_Sheet_put_1 ?_
  refine dk_if hF (fun hc0 hF => ?_) (fun hc0 hF => ?_)
  · refine dk_lsw (off := 28) (tgt := 32) X d_Sheet_put_4 (by decide) (by rw [hc0]; decide) (by decide) ?_
    refine dk_aload_n (k := 0) (i := 0) X 0 rfl rfl d_Sheet_put_32 ?_
    refine dk_get X q_Sheet (35 + 2 * jx0) 0 (by decide) (oC_Sheet g ad T S jx0 hx0) rfl f_Sheet_9 d_Sheet_put_33 ?_
    refine dk_iload_n (k := 1) (i := 1) X 1 rfl rfl d_Sheet_put_36 ?_
    refine dk_iload_n (k := 2) (i := 2) X 2 rfl rfl d_Sheet_put_37 ?_
    refine dk_i2b X d_Sheet_put_38 ?_
    refine dk_iast X (36 + 2 * jx0) (aC_row g ad T S jx0 hx0) (sC_row g ad T S jx0 hx0 _ _) d_Sheet_put_39 hF (fun S1 hF => ?_)
    refine dk_goto (tgt := 61) X (by decide) d_Sheet_put_40 ?_
    exact dk_retv hR hF d_Sheet_put_61
  · refine dk_if hF (fun hc1 hF => ?_) (fun hc1 hF => ?_)
    · refine dk_lsw (off := 39) (tgt := 43) X d_Sheet_put_4 (by decide) (by rw [hc1]; decide) (by decide) ?_
      refine dk_aload_n (k := 0) (i := 0) X 0 rfl rfl d_Sheet_put_43 ?_
      refine dk_get X q_Sheet (35 + 2 * jx0) 0 (by decide) (oC_Sheet g ad T S jx0 hx0) rfl f_Sheet_9 d_Sheet_put_44 ?_
      refine dk_iload_n (k := 1) (i := 1) X 1 rfl rfl d_Sheet_put_47 ?_
      refine dk_iload_n (k := 2) (i := 2) X 2 rfl rfl d_Sheet_put_48 ?_
      refine dk_i2s X d_Sheet_put_49 ?_
      refine dk_iast X (36 + 2 * jx0) (aC_row g ad T S jx0 hx0) (sC_row g ad T S jx0 hx0 _ _) d_Sheet_put_50 hF (fun S2 hF => ?_)
      refine dk_goto (tgt := 61) X (by decide) d_Sheet_put_51 ?_
      exact dk_retv hR hF d_Sheet_put_61
    · refine dk_lsw (off := 50) (tgt := 54) X d_Sheet_put_4 (by decide) (by show Op.lookupswitch.offset [(0, 28), (1, 39)] 50 _ = _; rw [lv_osw hc0 (by decide), lv_osw hc1 (by decide)]; rfl) (by decide) ?_
      refine dk_aload_n (k := 0) (i := 0) X 0 rfl rfl d_Sheet_put_54 ?_
      refine dk_get X q_Sheet (35 + 2 * jx0) 0 (by decide) (oC_Sheet g ad T S jx0 hx0) rfl f_Sheet_9 d_Sheet_put_55 ?_
      refine dk_iload_n (k := 1) (i := 1) X 1 rfl rfl d_Sheet_put_58 ?_
      refine dk_iload_n (k := 2) (i := 2) X 2 rfl rfl d_Sheet_put_59 ?_
      refine dk_iast X (36 + 2 * jx0) (aC_row g ad T S jx0 hx0) (sC_row g ad T S jx0 hx0 _ _) d_Sheet_put_60 hF (fun S3 hF => ?_)
      exact dk_retv hR hF d_Sheet_put_61
def F_Sheet_put (n T : Nat) (jx0 : Nat) (x1 : Int32) (x2 : Int32) (S : dk_S) : Option dk_S := B_Sheet_put_0 n T jx0 x1 x2 S
theorem c_Sheet_put (l : Launch) (g : dk_G) (ad : Nat → Nat) (T n : Nat) (jx0 : Nat) (x1 : Int32) (x2 : Int32) (hx0 : jx0 < 4) (S : dk_S) : dk_Mv l g y_Sheet_put b_Sheet_put 3 rm_Sheet_put (none) [.ref (ad (35 + 2 * jx0)), .int x1, .int x2] (wC g ad T) S (F_Sheet_put n T jx0 x1 x2 S) := dk_enterv (by decide) rfl (Nat.le_of_ble_eq_true rfl) (fun p e s m args below meth c A Q res hF X hR => (kb_Sheet_put_0 (n := n) X hR hx0 hF))
abbrev b_Image_keep : ByteArray := prog_3_method_2_code
def y_Image_keep : MethodName := ⟨R_Image, "keep", "(LWhoseHare$Land;LWhoseHare$Diary;I)V"⟩
theorem d_Image_keep_0 : decode b_Image_keep 0 = .ok (.aload_n 0, 1) := by decide +kernel
theorem d_Image_keep_1 : decode b_Image_keep 1 = .ok (.iconst 1, 1) := by decide +kernel
theorem d_Image_keep_2 : decode b_Image_keep 2 = .ok (.putfield 18, 3) := by decide +kernel
theorem d_Image_keep_5 : decode b_Image_keep 5 = .ok (.aload_n 0, 1) := by decide +kernel
theorem d_Image_keep_6 : decode b_Image_keep 6 = .ok (.iload_n 3, 1) := by decide +kernel
theorem d_Image_keep_7 : decode b_Image_keep 7 = .ok (.putfield 22, 3) := by decide +kernel
theorem d_Image_keep_10 : decode b_Image_keep 10 = .ok (.aload_n 0, 1) := by decide +kernel
theorem d_Image_keep_11 : decode b_Image_keep 11 = .ok (.aload_n 1, 1) := by decide +kernel
theorem d_Image_keep_12 : decode b_Image_keep 12 = .ok (.getfield 26, 3) := by decide +kernel
theorem d_Image_keep_15 : decode b_Image_keep 15 = .ok (.putfield 31, 3) := by decide +kernel
theorem d_Image_keep_18 : decode b_Image_keep 18 = .ok (.aload_n 0, 1) := by decide +kernel
theorem d_Image_keep_19 : decode b_Image_keep 19 = .ok (.aload_n 2, 1) := by decide +kernel
theorem d_Image_keep_20 : decode b_Image_keep 20 = .ok (.getfield 32, 3) := by decide +kernel
theorem d_Image_keep_23 : decode b_Image_keep 23 = .ok (.putfield 37, 3) := by decide +kernel
theorem d_Image_keep_26 : decode b_Image_keep 26 = .ok (.aload_n 1, 1) := by decide +kernel
theorem d_Image_keep_27 : decode b_Image_keep 27 = .ok (.getfield 40, 3) := by decide +kernel
theorem d_Image_keep_30 : decode b_Image_keep 30 = .ok (.iconst 0, 1) := by decide +kernel
theorem d_Image_keep_31 : decode b_Image_keep 31 = .ok (.aload_n 0, 1) := by decide +kernel
theorem d_Image_keep_32 : decode b_Image_keep 32 = .ok (.getfield 9, 3) := by decide +kernel
theorem d_Image_keep_35 : decode b_Image_keep 35 = .ok (.iconst 0, 1) := by decide +kernel
theorem d_Image_keep_36 : decode b_Image_keep 36 = .ok (.bipush 8, 2) := by decide +kernel
theorem d_Image_keep_38 : decode b_Image_keep 38 = .ok (.invokestatic 41, 3) := by decide +kernel
theorem d_Image_keep_41 : decode b_Image_keep 41 = .ok (.aload_n 2, 1) := by decide +kernel
theorem d_Image_keep_42 : decode b_Image_keep 42 = .ok (.getfield 47, 3) := by decide +kernel
theorem d_Image_keep_45 : decode b_Image_keep 45 = .ok (.iconst 0, 1) := by decide +kernel
theorem d_Image_keep_46 : decode b_Image_keep 46 = .ok (.aload_n 0, 1) := by decide +kernel
theorem d_Image_keep_47 : decode b_Image_keep 47 = .ok (.getfield 15, 3) := by decide +kernel
theorem d_Image_keep_50 : decode b_Image_keep 50 = .ok (.iconst 0, 1) := by decide +kernel
theorem d_Image_keep_51 : decode b_Image_keep 51 = .ok (.bipush 32, 2) := by decide +kernel
theorem d_Image_keep_53 : decode b_Image_keep 53 = .ok (.invokestatic 41, 3) := by decide +kernel
theorem d_Image_keep_56 : decode b_Image_keep 56 = .ok (.return_, 1) := by decide +kernel
theorem v_Image_keep : dk_Yv y_Image_keep b_Image_keep 4 (none) 3 := ⟨dk_in (List.mem_of_getElem? (i := 872) (by decide +kernel)) rfl, dk_in (List.mem_of_getElem? (i := 873) (by decide +kernel)) rfl, dk_in (List.mem_of_getElem? (i := 74) (by decide +kernel)) rfl, dk_in (List.mem_of_getElem? (i := 874) (by decide +kernel)) rfl, by decide +kernel, by decide +kernel, by decide +kernel⟩
abbrev rm_Image_keep : Room := { frames := 1, cells := 0, slots := 0, locals := 30 }
theorem f_Image_15 : Cond.fieldLink R_Image 15 (T_Image 3).1 (T_Image 3).2.1 (T_Image 3).2.2.1 ∈ dk_tb := dk_in (List.mem_of_getElem? (i := 356) (by decide +kernel)) rfl
theorem f_Image_18 : Cond.fieldLink R_Image 18 (T_Image 0).1 (T_Image 0).2.1 (T_Image 0).2.2.1 ∈ dk_tb := dk_in (List.mem_of_getElem? (i := 351) (by decide +kernel)) rfl
theorem f_Image_22 : Cond.fieldLink R_Image 22 (T_Image 1).1 (T_Image 1).2.1 (T_Image 1).2.2.1 ∈ dk_tb := dk_in (List.mem_of_getElem? (i := 353) (by decide +kernel)) rfl
theorem f_Image_26 : Cond.fieldLink R_Image 26 (T_Land 3).1 (T_Land 3).2.1 (T_Land 3).2.2.1 ∈ dk_tb := dk_in (List.mem_of_getElem? (i := 107) (by decide +kernel)) rfl
theorem f_Image_31 : Cond.fieldLink R_Image 31 (T_Image 4).1 (T_Image 4).2.1 (T_Image 4).2.2.1 ∈ dk_tb := dk_in (List.mem_of_getElem? (i := 357) (by decide +kernel)) rfl
theorem f_Image_32 : Cond.fieldLink R_Image 32 (T_Diary 6).1 (T_Diary 6).2.1 (T_Diary 6).2.2.1 ∈ dk_tb := dk_in (List.mem_of_getElem? (i := 150) (by decide +kernel)) rfl
theorem f_Image_37 : Cond.fieldLink R_Image 37 (T_Image 5).1 (T_Image 5).2.1 (T_Image 5).2.2.1 ∈ dk_tb := dk_in (List.mem_of_getElem? (i := 358) (by decide +kernel)) rfl
theorem f_Image_40 : Cond.fieldLink R_Image 40 (T_Land 0).1 (T_Land 0).2.1 (T_Land 0).2.2.1 ∈ dk_tb := dk_in (List.mem_of_getElem? (i := 99) (by decide +kernel)) rfl
theorem f_Image_47 : Cond.fieldLink R_Image 47 (T_Diary 5).1 (T_Diary 5).2.1 (T_Diary 5).2.2.1 ∈ dk_tb := dk_in (List.mem_of_getElem? (i := 146) (by decide +kernel)) rfl
theorem f_Image_9 : Cond.fieldLink R_Image 9 (T_Image 2).1 (T_Image 2).2.1 (T_Image 2).2.2.1 ∈ dk_tb := dk_in (List.mem_of_getElem? (i := 355) (by decide +kernel)) rfl
theorem mm_Image_41 : Cond.methodLink R_Image 41 arraycopyName ∈ dk_tb := dk_in (List.mem_of_getElem? (i := 875) (by decide +kernel)) rfl
def B_Image_keep_0 (n T : Nat)  (x3 : Int32) (S : dk_S) : Option dk_S :=
  dk_b (1 : Int32) <| dk_p S 121 (1 : Int32) fun S1 => dk_p S1 122 x3 fun S2 => dk_p S2 123 (S2 102 0) fun S3 => dk_p S3 124 (S3 104 0) fun S4 => dk_cp S4 2 33 8 8 (0 : Int32) (0 : Int32) (8 : Int32) fun S5 => dk_cp S5 11 34 32 32 (0 : Int32) (0 : Int32) (32 : Int32) fun S6 => some S6
set_option maxRecDepth 20000 in
theorem kb_Image_keep_0 {p : Program} {l : Launch} {e : Env} {s : State} {m : MethodId} {args : Array Value} {below : List Frame} {meth : Method} {c : Code} {g : dk_G} {A : Nat → Prop} {Q : State → Prop} {ad : Nat → Nat} {T : Nat} {n : Nat} {res : dk_S} (X : dk_X p s m args meth c b_Image_keep 4 R_Image (none) g A) (hR : dk_Rv p l e rm_Image_keep s m args below meth c g A Q 4 b_Image_keep (none) (wC g ad T) res)  {x3 : Int32} {S : dk_S}  (hF : B_Image_keep_0 n T  x3 S = some res) : dk_J p l e rm_Image_keep s m args below meth c g A Q 4 0 0 0 [(0, .ref (ad 32)), (1, .ref (ad 1)), (2, .ref (ad 5)), (3, .int x3)] [] (wC g ad T S) := by
  unfold B_Image_keep_0 at hF
  refine dk_aload_n (k := 0) (i := 0) X 0 rfl rfl d_Image_keep_0 ?_
  refine dk_iconst (v := 1) X (by decide) d_Image_keep_1 ?_
  refine dk_putz X q_Image 32 0 (by decide) (oC_Image g ad T S) f_Image_18 rfl rfl (Nat.le_of_ble_eq_true rfl) (sC_Image_isKept g ad T S _) d_Image_keep_2 hF (fun S1 hF => ?_)
  refine dk_aload_n (k := 0) (i := 0) X 0 rfl rfl d_Image_keep_5 ?_
  refine dk_iload_n (k := 3) (i := 3) X 3 rfl rfl d_Image_keep_6 ?_
  refine dk_puti X q_Image 32 1 (by decide) (oC_Image g ad T S1) f_Image_22 rfl rfl (Nat.le_of_ble_eq_true rfl) (sC_Image_law g ad T S1 _) d_Image_keep_7 hF (fun S2 hF => ?_)
  refine dk_aload_n (k := 0) (i := 0) X 0 rfl rfl d_Image_keep_10 ?_
  refine dk_aload_n (k := 1) (i := 1) X 1 rfl rfl d_Image_keep_11 ?_
  refine dk_get X q_Land 1 3 (by decide) (oC_Land g ad T S2) rfl f_Image_26 d_Image_keep_12 ?_
  refine dk_puti X q_Image 32 4 (by decide) (oC_Image g ad T S2) f_Image_31 rfl rfl (Nat.le_of_ble_eq_true rfl) (sC_Image_grounds g ad T S2 _) d_Image_keep_15 hF (fun S3 hF => ?_)
  refine dk_aload_n (k := 0) (i := 0) X 0 rfl rfl d_Image_keep_18 ?_
  refine dk_aload_n (k := 2) (i := 2) X 2 rfl rfl d_Image_keep_19 ?_
  refine dk_get X q_Diary 5 6 (by decide) (oC_Diary g ad T S3) rfl f_Image_32 d_Image_keep_20 ?_
  refine dk_puti X q_Image 32 5 (by decide) (oC_Image g ad T S3) f_Image_37 rfl rfl (Nat.le_of_ble_eq_true rfl) (sC_Image_moments g ad T S3 _) d_Image_keep_23 hF (fun S4 hF => ?_)
  refine dk_aload_n (k := 1) (i := 1) X 1 rfl rfl d_Image_keep_26 ?_
  refine dk_get X q_Land 1 0 (by decide) (oC_Land g ad T S4) rfl f_Image_40 d_Image_keep_27 ?_
  refine dk_iconst (v := 0) X (by decide) d_Image_keep_30 ?_
  refine dk_aload_n (k := 0) (i := 0) X 0 rfl rfl d_Image_keep_31 ?_
  refine dk_get X q_Image 32 2 (by decide) (oC_Image g ad T S4) rfl f_Image_9 d_Image_keep_32 ?_
  refine dk_iconst (v := 0) X (by decide) d_Image_keep_35 ?_
  refine dk_bipush (v := 8) X (by decide) d_Image_keep_36 ?_
  refine dk_acopy X 2 33 (aC_2 g ad T S4) (aC_33 g ad T S4) (zC_33 g ad T S4 _) mm_Image_41 (Nat.le_of_ble_eq_true rfl) (Nat.le_of_ble_eq_true rfl) d_Image_keep_38 hF (fun S5 hF => ?_)
  refine dk_aload_n (k := 2) (i := 2) X 2 rfl rfl d_Image_keep_41 ?_
  refine dk_get X q_Diary 5 5 (by decide) (oC_Diary g ad T S5) rfl f_Image_47 d_Image_keep_42 ?_
  refine dk_iconst (v := 0) X (by decide) d_Image_keep_45 ?_
  refine dk_aload_n (k := 0) (i := 0) X 0 rfl rfl d_Image_keep_46 ?_
  refine dk_get X q_Image 32 3 (by decide) (oC_Image g ad T S5) rfl f_Image_15 d_Image_keep_47 ?_
  refine dk_iconst (v := 0) X (by decide) d_Image_keep_50 ?_
  refine dk_bipush (v := 32) X (by decide) d_Image_keep_51 ?_
  refine dk_acopy X 11 34 (aC_11 g ad T S5) (aC_34 g ad T S5) (zC_34 g ad T S5 _) mm_Image_41 (Nat.le_of_ble_eq_true rfl) (Nat.le_of_ble_eq_true rfl) d_Image_keep_53 hF (fun S6 hF => ?_)
  exact dk_retv hR hF d_Image_keep_56
def F_Image_keep (n T : Nat) (x3 : Int32) (S : dk_S) : Option dk_S := B_Image_keep_0 n T x3 S
theorem c_Image_keep (l : Launch) (g : dk_G) (ad : Nat → Nat) (T n : Nat) (x3 : Int32)  (S : dk_S) : dk_Mv l g y_Image_keep b_Image_keep 4 rm_Image_keep (none) [.ref (ad 32), .ref (ad 1), .ref (ad 5), .int x3] (wC g ad T) S (F_Image_keep n T x3 S) := dk_enterv (by decide) rfl (Nat.le_of_ble_eq_true rfl) (fun p e s m args below meth c A Q res hF X hR => (kb_Image_keep_0 (n := n) X hR  hF))
abbrev b_Image_restore : ByteArray := prog_3_method_3_code
def y_Image_restore : MethodName := ⟨R_Image, "restore", "(LWhoseHare$Land;LWhoseHare$Diary;)V"⟩
theorem d_Image_restore_0 : decode b_Image_restore 0 = .ok (.aload_n 0, 1) := by decide +kernel
theorem d_Image_restore_1 : decode b_Image_restore 1 = .ok (.getfield 9, 3) := by decide +kernel
theorem d_Image_restore_4 : decode b_Image_restore 4 = .ok (.iconst 0, 1) := by decide +kernel
theorem d_Image_restore_5 : decode b_Image_restore 5 = .ok (.aload_n 1, 1) := by decide +kernel
theorem d_Image_restore_6 : decode b_Image_restore 6 = .ok (.getfield 40, 3) := by decide +kernel
theorem d_Image_restore_9 : decode b_Image_restore 9 = .ok (.iconst 0, 1) := by decide +kernel
theorem d_Image_restore_10 : decode b_Image_restore 10 = .ok (.aload_n 0, 1) := by decide +kernel
theorem d_Image_restore_11 : decode b_Image_restore 11 = .ok (.getfield 31, 3) := by decide +kernel
theorem d_Image_restore_14 : decode b_Image_restore 14 = .ok (.invokestatic 41, 3) := by decide +kernel
theorem d_Image_restore_17 : decode b_Image_restore 17 = .ok (.aload_n 2, 1) := by decide +kernel
theorem d_Image_restore_18 : decode b_Image_restore 18 = .ok (.aload_n 2, 1) := by decide +kernel
theorem d_Image_restore_19 : decode b_Image_restore 19 = .ok (.getfield 32, 3) := by decide +kernel
theorem d_Image_restore_22 : decode b_Image_restore 22 = .ok (.aload_n 0, 1) := by decide +kernel
theorem d_Image_restore_23 : decode b_Image_restore 23 = .ok (.getfield 37, 3) := by decide +kernel
theorem d_Image_restore_26 : decode b_Image_restore 26 = .ok (.invokestatic 48, 3) := by decide +kernel
theorem d_Image_restore_29 : decode b_Image_restore 29 = .ok (.putfield 32, 3) := by decide +kernel
theorem d_Image_restore_32 : decode b_Image_restore 32 = .ok (.aload_n 0, 1) := by decide +kernel
theorem d_Image_restore_33 : decode b_Image_restore 33 = .ok (.getfield 15, 3) := by decide +kernel
theorem d_Image_restore_36 : decode b_Image_restore 36 = .ok (.iconst 0, 1) := by decide +kernel
theorem d_Image_restore_37 : decode b_Image_restore 37 = .ok (.aload_n 2, 1) := by decide +kernel
theorem d_Image_restore_38 : decode b_Image_restore 38 = .ok (.getfield 47, 3) := by decide +kernel
theorem d_Image_restore_41 : decode b_Image_restore 41 = .ok (.iconst 0, 1) := by decide +kernel
theorem d_Image_restore_42 : decode b_Image_restore 42 = .ok (.aload_n 2, 1) := by decide +kernel
theorem d_Image_restore_43 : decode b_Image_restore 43 = .ok (.getfield 32, 3) := by decide +kernel
theorem d_Image_restore_46 : decode b_Image_restore 46 = .ok (.invokestatic 41, 3) := by decide +kernel
theorem d_Image_restore_49 : decode b_Image_restore 49 = .ok (.return_, 1) := by decide +kernel
theorem v_Image_restore : dk_Yv y_Image_restore b_Image_restore 3 (none) 2 := ⟨dk_in (List.mem_of_getElem? (i := 881) (by decide +kernel)) rfl, dk_in (List.mem_of_getElem? (i := 882) (by decide +kernel)) rfl, dk_in (List.mem_of_getElem? (i := 74) (by decide +kernel)) rfl, dk_in (List.mem_of_getElem? (i := 883) (by decide +kernel)) rfl, by decide +kernel, by decide +kernel, by decide +kernel⟩
abbrev rm_Image_restore : Room := { frames := 1, cells := 0, slots := 0, locals := 30 }
theorem mm_Image_48 : Cond.methodLink R_Image 48 Lib.Math.min.name ∈ dk_tb := dk_in (List.mem_of_getElem? (i := 884) (by decide +kernel)) rfl
def B_Image_restore_0 (n T : Nat)   (S : dk_S) : Option dk_S :=
  dk_cp S 33 2 8 8 (0 : Int32) (0 : Int32) (S 123 0) fun S1 => dk_p S1 104 (if (S1 124 0) < (S1 104 0) then (S1 124 0) else (S1 104 0)) fun S2 => dk_cp S2 34 11 32 32 (0 : Int32) (0 : Int32) (S2 104 0) fun S3 => some S3
set_option maxRecDepth 20000 in
theorem kb_Image_restore_0 {p : Program} {l : Launch} {e : Env} {s : State} {m : MethodId} {args : Array Value} {below : List Frame} {meth : Method} {c : Code} {g : dk_G} {A : Nat → Prop} {Q : State → Prop} {ad : Nat → Nat} {T : Nat} {n : Nat} {res : dk_S} (X : dk_X p s m args meth c b_Image_restore 3 R_Image (none) g A) (hR : dk_Rv p l e rm_Image_restore s m args below meth c g A Q 3 b_Image_restore (none) (wC g ad T) res)   {S : dk_S}  (hF : B_Image_restore_0 n T   S = some res) : dk_J p l e rm_Image_restore s m args below meth c g A Q 3 0 0 0 [(0, .ref (ad 32)), (1, .ref (ad 1)), (2, .ref (ad 5))] [] (wC g ad T S) := by
  unfold B_Image_restore_0 at hF
  refine dk_aload_n (k := 0) (i := 0) X 0 rfl rfl d_Image_restore_0 ?_
  refine dk_get X q_Image 32 2 (by decide) (oC_Image g ad T S) rfl f_Image_9 d_Image_restore_1 ?_
  refine dk_iconst (v := 0) X (by decide) d_Image_restore_4 ?_
  refine dk_aload_n (k := 1) (i := 1) X 1 rfl rfl d_Image_restore_5 ?_
  refine dk_get X q_Land 1 0 (by decide) (oC_Land g ad T S) rfl f_Image_40 d_Image_restore_6 ?_
  refine dk_iconst (v := 0) X (by decide) d_Image_restore_9 ?_
  refine dk_aload_n (k := 0) (i := 0) X 0 rfl rfl d_Image_restore_10 ?_
  refine dk_get X q_Image 32 4 (by decide) (oC_Image g ad T S) rfl f_Image_31 d_Image_restore_11 ?_
  refine dk_acopy X 33 2 (aC_33 g ad T S) (aC_2 g ad T S) (zC_2 g ad T S _) mm_Image_41 (Nat.le_of_ble_eq_true rfl) (Nat.le_of_ble_eq_true rfl) d_Image_restore_14 hF (fun S1 hF => ?_)
  refine dk_aload_n (k := 2) (i := 2) X 2 rfl rfl d_Image_restore_17 ?_
  refine dk_aload_n (k := 2) (i := 2) X 2 rfl rfl d_Image_restore_18 ?_
  refine dk_get X q_Diary 5 6 (by decide) (oC_Diary g ad T S1) rfl f_Image_32 d_Image_restore_19 ?_
  refine dk_aload_n (k := 0) (i := 0) X 0 rfl rfl d_Image_restore_22 ?_
  refine dk_get X q_Image 32 5 (by decide) (oC_Image g ad T S1) rfl f_Image_37 d_Image_restore_23 ?_
  refine dk_mmin X mm_Image_48 (Nat.le_of_ble_eq_true rfl) (Nat.le_of_ble_eq_true rfl) (Nat.le_refl _) (Nat.le_refl _) d_Image_restore_26 ?_
  refine dk_puti X q_Diary 5 6 (by decide) (oC_Diary g ad T S1) f_Image_32 rfl rfl (Nat.le_of_ble_eq_true rfl) (sC_Diary_size g ad T S1 _) d_Image_restore_29 hF (fun S2 hF => ?_)
  refine dk_aload_n (k := 0) (i := 0) X 0 rfl rfl d_Image_restore_32 ?_
  refine dk_get X q_Image 32 3 (by decide) (oC_Image g ad T S2) rfl f_Image_15 d_Image_restore_33 ?_
  refine dk_iconst (v := 0) X (by decide) d_Image_restore_36 ?_
  refine dk_aload_n (k := 2) (i := 2) X 2 rfl rfl d_Image_restore_37 ?_
  refine dk_get X q_Diary 5 5 (by decide) (oC_Diary g ad T S2) rfl f_Image_47 d_Image_restore_38 ?_
  refine dk_iconst (v := 0) X (by decide) d_Image_restore_41 ?_
  refine dk_aload_n (k := 2) (i := 2) X 2 rfl rfl d_Image_restore_42 ?_
  refine dk_get X q_Diary 5 6 (by decide) (oC_Diary g ad T S2) rfl f_Image_32 d_Image_restore_43 ?_
  refine dk_acopy X 34 11 (aC_34 g ad T S2) (aC_11 g ad T S2) (zC_11 g ad T S2 _) mm_Image_41 (Nat.le_of_ble_eq_true rfl) (Nat.le_of_ble_eq_true rfl) d_Image_restore_46 hF (fun S3 hF => ?_)
  exact dk_retv hR hF d_Image_restore_49
def F_Image_restore (n T : Nat)  (S : dk_S) : Option dk_S := B_Image_restore_0 n T  S
theorem c_Image_restore (l : Launch) (g : dk_G) (ad : Nat → Nat) (T n : Nat)   (S : dk_S) : dk_Mv l g y_Image_restore b_Image_restore 3 rm_Image_restore (none) [.ref (ad 32), .ref (ad 1), .ref (ad 5)] (wC g ad T) S (F_Image_restore n T  S) := dk_enterv (by decide) rfl (Nat.le_of_ble_eq_true rfl) (fun p e s m args below meth c A Q res hF X hR => (kb_Image_restore_0 (n := n) X hR  hF))
abbrev b_Scales_ofOne : ByteArray := prog_6_method_4_code
def y_Scales_ofOne : MethodName := ⟨R_Scales, "ofOne", "(II)I"⟩
theorem d_Scales_ofOne_0 : decode b_Scales_ofOne 0 = .ok (.iload_n 0, 1) := by decide +kernel
theorem d_Scales_ofOne_1 : decode b_Scales_ofOne 1 = .ok (.bipush (-7), 2) := by decide +kernel
theorem d_Scales_ofOne_3 : decode b_Scales_ofOne 3 = .ok (.if_icmp .ne 6, 3) := by decide +kernel
theorem d_Scales_ofOne_6 : decode b_Scales_ofOne 6 = .ok (.iload_n 1, 1) := by decide +kernel
theorem d_Scales_ofOne_7 : decode b_Scales_ofOne 7 = .ok (.ineg, 1) := by decide +kernel
theorem d_Scales_ofOne_8 : decode b_Scales_ofOne 8 = .ok (.ireturn, 1) := by decide +kernel
theorem d_Scales_ofOne_9 : decode b_Scales_ofOne 9 = .ok (.iload_n 1, 1) := by decide +kernel
theorem d_Scales_ofOne_10 : decode b_Scales_ofOne 10 = .ok (.ifCond .ne 7, 3) := by decide +kernel
theorem d_Scales_ofOne_13 : decode b_Scales_ofOne 13 = .ok (.iconst 1, 1) := by decide +kernel
theorem d_Scales_ofOne_14 : decode b_Scales_ofOne 14 = .ok (.goto 4, 3) := by decide +kernel
theorem d_Scales_ofOne_17 : decode b_Scales_ofOne 17 = .ok (.iconst 0, 1) := by decide +kernel
theorem d_Scales_ofOne_18 : decode b_Scales_ofOne 18 = .ok (.ireturn, 1) := by decide +kernel
theorem v_Scales_ofOne : dk_Ys y_Scales_ofOne b_Scales_ofOne 2 (some .int) 2 := ⟨dk_in (List.mem_of_getElem? (i := 672) (by decide +kernel)) rfl, dk_in (List.mem_of_getElem? (i := 71) (by decide +kernel)) rfl, dk_in (List.mem_of_getElem? (i := 673) (by decide +kernel)) rfl, by decide +kernel, by decide +kernel, by decide +kernel⟩
abbrev rm_Scales_ofOne : Room := { frames := 0, cells := 0, slots := 0, locals := 0 }
def B_Scales_ofOne_0 (n T : Nat)  (x0 : Int32) (x1 : Int32) (S : dk_S) : Option (Int32 × dk_S) :=
  if ¬ x0 = (-7 : Int32) then (if ¬ x1 = 0 then (some ((0 : Int32), S)) else (some ((1 : Int32), S))) else (some ((-x1), S))
set_option maxRecDepth 20000 in
theorem kb_Scales_ofOne_0 {p : Program} {l : Launch} {e : Env} {s : State} {m : MethodId} {args : Array Value} {below : List Frame} {meth : Method} {c : Code} {g : dk_G} {A : Nat → Prop} {Q : State → Prop} {ad : Nat → Nat} {T : Nat} {n : Nat} {res : (Int32 × dk_S)} (X : dk_X p s m args meth c b_Scales_ofOne 2 R_Scales (some .int) g A) (hR : dk_Ri p l e rm_Scales_ofOne s m args below meth c g A Q 2 b_Scales_ofOne (some .int) (wC g ad T) res)  {x0 : Int32} {x1 : Int32} {S : dk_S}  (hF : B_Scales_ofOne_0 n T  x0 x1 S = some res) : dk_J p l e rm_Scales_ofOne s m args below meth c g A Q 2 0 0 0 [(0, .int x0), (1, .int x1)] [] (wC g ad T S) := by
  unfold B_Scales_ofOne_0 at hF
  refine dk_iload_n (k := 0) (i := 0) X 0 rfl rfl d_Scales_ofOne_0 ?_
  refine dk_bipush (v := -7) X (by decide) d_Scales_ofOne_1 ?_
  refine dk_icmp_ne (tgt := 9) X (by decide) d_Scales_ofOne_3 hF (fun hF => ?_) (fun hF => ?_)
  · refine dk_iload_n (k := 1) (i := 1) X 1 rfl rfl d_Scales_ofOne_9 ?_
    refine dk_if_ne (tgt := 17) X (by decide) d_Scales_ofOne_10 hF (fun hF => ?_) (fun hF => ?_)
    · refine dk_iconst (v := 0) X (by decide) d_Scales_ofOne_17 ?_
      exact dk_reti hR hF d_Scales_ofOne_18
    · refine dk_iconst (v := 1) X (by decide) d_Scales_ofOne_13 ?_
      refine dk_goto (tgt := 18) X (by decide) d_Scales_ofOne_14 ?_
      exact dk_reti hR hF d_Scales_ofOne_18
  · refine dk_iload_n (k := 1) (i := 1) X 1 rfl rfl d_Scales_ofOne_6 ?_
    refine dk_ineg X d_Scales_ofOne_7 ?_
    exact dk_reti hR hF d_Scales_ofOne_8
def F_Scales_ofOne (n T : Nat) (x0 : Int32) (x1 : Int32) (S : dk_S) : Option (Int32 × dk_S) := B_Scales_ofOne_0 n T x0 x1 S
theorem c_Scales_ofOne (l : Launch) (g : dk_G) (ad : Nat → Nat) (T n : Nat) (x0 : Int32) (x1 : Int32)  (S : dk_S) : dk_Mi l g y_Scales_ofOne b_Scales_ofOne 2 rm_Scales_ofOne (some .int) [.int x0, .int x1] (wC g ad T) S (F_Scales_ofOne n T x0 x1 S) := dk_enteri (by decide) (Nat.le_of_ble_eq_true rfl) (fun p e s m args below meth c A Q res hF X hR => (kb_Scales_ofOne_0 (n := n) X hR  hF))
abbrev b_Scales_ofTwo : ByteArray := prog_6_method_5_code
def y_Scales_ofTwo : MethodName := ⟨R_Scales, "ofTwo", "(III)I"⟩
theorem d_Scales_ofTwo_0 : decode b_Scales_ofTwo 0 = .ok (.iload_n 0, 1) := by decide +kernel
theorem d_Scales_ofTwo_1 : decode b_Scales_ofTwo 1 = .ok (.tableswitch 87 (-14) (-9) #[73, 62, 51, 47, 43, 39], 39) := by decide +kernel
theorem d_Scales_ofTwo_40 : decode b_Scales_ofTwo 40 = .ok (.iload_n 1, 1) := by decide +kernel
theorem d_Scales_ofTwo_41 : decode b_Scales_ofTwo 41 = .ok (.iload_n 2, 1) := by decide +kernel
theorem d_Scales_ofTwo_42 : decode b_Scales_ofTwo 42 = .ok (.imul, 1) := by decide +kernel
theorem d_Scales_ofTwo_43 : decode b_Scales_ofTwo 43 = .ok (.ireturn, 1) := by decide +kernel
theorem d_Scales_ofTwo_44 : decode b_Scales_ofTwo 44 = .ok (.iload_n 1, 1) := by decide +kernel
theorem d_Scales_ofTwo_45 : decode b_Scales_ofTwo 45 = .ok (.iload_n 2, 1) := by decide +kernel
theorem d_Scales_ofTwo_46 : decode b_Scales_ofTwo 46 = .ok (.iadd, 1) := by decide +kernel
theorem d_Scales_ofTwo_47 : decode b_Scales_ofTwo 47 = .ok (.ireturn, 1) := by decide +kernel
theorem d_Scales_ofTwo_48 : decode b_Scales_ofTwo 48 = .ok (.iload_n 1, 1) := by decide +kernel
theorem d_Scales_ofTwo_49 : decode b_Scales_ofTwo 49 = .ok (.iload_n 2, 1) := by decide +kernel
theorem d_Scales_ofTwo_50 : decode b_Scales_ofTwo 50 = .ok (.isub, 1) := by decide +kernel
theorem d_Scales_ofTwo_51 : decode b_Scales_ofTwo 51 = .ok (.ireturn, 1) := by decide +kernel
theorem d_Scales_ofTwo_52 : decode b_Scales_ofTwo 52 = .ok (.iload_n 1, 1) := by decide +kernel
theorem d_Scales_ofTwo_53 : decode b_Scales_ofTwo 53 = .ok (.iload_n 2, 1) := by decide +kernel
theorem d_Scales_ofTwo_54 : decode b_Scales_ofTwo 54 = .ok (.if_icmp .ge 7, 3) := by decide +kernel
theorem d_Scales_ofTwo_57 : decode b_Scales_ofTwo 57 = .ok (.iconst 1, 1) := by decide +kernel
theorem d_Scales_ofTwo_58 : decode b_Scales_ofTwo 58 = .ok (.goto 4, 3) := by decide +kernel
theorem d_Scales_ofTwo_61 : decode b_Scales_ofTwo 61 = .ok (.iconst 0, 1) := by decide +kernel
theorem d_Scales_ofTwo_62 : decode b_Scales_ofTwo 62 = .ok (.ireturn, 1) := by decide +kernel
theorem d_Scales_ofTwo_63 : decode b_Scales_ofTwo 63 = .ok (.iload_n 1, 1) := by decide +kernel
theorem d_Scales_ofTwo_64 : decode b_Scales_ofTwo 64 = .ok (.iload_n 2, 1) := by decide +kernel
theorem d_Scales_ofTwo_65 : decode b_Scales_ofTwo 65 = .ok (.if_icmp .ne 7, 3) := by decide +kernel
theorem d_Scales_ofTwo_68 : decode b_Scales_ofTwo 68 = .ok (.iconst 1, 1) := by decide +kernel
theorem d_Scales_ofTwo_69 : decode b_Scales_ofTwo 69 = .ok (.goto 4, 3) := by decide +kernel
theorem d_Scales_ofTwo_72 : decode b_Scales_ofTwo 72 = .ok (.iconst 0, 1) := by decide +kernel
theorem d_Scales_ofTwo_73 : decode b_Scales_ofTwo 73 = .ok (.ireturn, 1) := by decide +kernel
theorem d_Scales_ofTwo_74 : decode b_Scales_ofTwo 74 = .ok (.iload_n 1, 1) := by decide +kernel
theorem d_Scales_ofTwo_75 : decode b_Scales_ofTwo 75 = .ok (.ifCond .eq 11, 3) := by decide +kernel
theorem d_Scales_ofTwo_78 : decode b_Scales_ofTwo 78 = .ok (.iload_n 2, 1) := by decide +kernel
theorem d_Scales_ofTwo_79 : decode b_Scales_ofTwo 79 = .ok (.ifCond .eq 7, 3) := by decide +kernel
theorem d_Scales_ofTwo_82 : decode b_Scales_ofTwo 82 = .ok (.iconst 1, 1) := by decide +kernel
theorem d_Scales_ofTwo_83 : decode b_Scales_ofTwo 83 = .ok (.goto 4, 3) := by decide +kernel
theorem d_Scales_ofTwo_86 : decode b_Scales_ofTwo 86 = .ok (.iconst 0, 1) := by decide +kernel
theorem d_Scales_ofTwo_87 : decode b_Scales_ofTwo 87 = .ok (.ireturn, 1) := by decide +kernel
theorem d_Scales_ofTwo_88 : decode b_Scales_ofTwo 88 = .ok (.iload_n 1, 1) := by decide +kernel
theorem d_Scales_ofTwo_89 : decode b_Scales_ofTwo 89 = .ok (.ifCond .ne 7, 3) := by decide +kernel
theorem d_Scales_ofTwo_92 : decode b_Scales_ofTwo 92 = .ok (.iload_n 2, 1) := by decide +kernel
theorem d_Scales_ofTwo_93 : decode b_Scales_ofTwo 93 = .ok (.ifCond .eq 7, 3) := by decide +kernel
theorem d_Scales_ofTwo_96 : decode b_Scales_ofTwo 96 = .ok (.iconst 1, 1) := by decide +kernel
theorem d_Scales_ofTwo_97 : decode b_Scales_ofTwo 97 = .ok (.goto 4, 3) := by decide +kernel
theorem d_Scales_ofTwo_100 : decode b_Scales_ofTwo 100 = .ok (.iconst 0, 1) := by decide +kernel
theorem d_Scales_ofTwo_101 : decode b_Scales_ofTwo 101 = .ok (.ireturn, 1) := by decide +kernel
theorem v_Scales_ofTwo : dk_Ys y_Scales_ofTwo b_Scales_ofTwo 3 (some .int) 3 := ⟨dk_in (List.mem_of_getElem? (i := 675) (by decide +kernel)) rfl, dk_in (List.mem_of_getElem? (i := 71) (by decide +kernel)) rfl, dk_in (List.mem_of_getElem? (i := 676) (by decide +kernel)) rfl, by decide +kernel, by decide +kernel, by decide +kernel⟩
abbrev rm_Scales_ofTwo : Room := { frames := 0, cells := 0, slots := 0, locals := 0 }
def B_Scales_ofTwo_0 (n T : Nat)  (x0 : Int32) (x1 : Int32) (x2 : Int32) (S : dk_S) : Option (Int32 × dk_S) :=
  if x0 = (-14 : Int32) then (if x1 = 0 then (some ((0 : Int32), S)) else (if x2 = 0 then (some ((0 : Int32), S)) else (some ((1 : Int32), S)))) else (if x0 = (-13 : Int32) then (if ¬ x1 = x2 then (some ((0 : Int32), S)) else (some ((1 : Int32), S))) else (if x0 = (-12 : Int32) then (if x2 ≤ x1 then (some ((0 : Int32), S)) else (some ((1 : Int32), S))) else (if x0 = (-11 : Int32) then (some ((x1 - x2), S)) else (if x0 = (-10 : Int32) then (some ((x1 + x2), S)) else (if x0 = (-9 : Int32) then (some ((x1 * x2), S)) else (if ¬ x1 = 0 then (some ((1 : Int32), S)) else (if x2 = 0 then (some ((0 : Int32), S)) else (some ((1 : Int32), S)))))))))
set_option maxRecDepth 20000 in
theorem kb_Scales_ofTwo_0 {p : Program} {l : Launch} {e : Env} {s : State} {m : MethodId} {args : Array Value} {below : List Frame} {meth : Method} {c : Code} {g : dk_G} {A : Nat → Prop} {Q : State → Prop} {ad : Nat → Nat} {T : Nat} {n : Nat} {res : (Int32 × dk_S)} (X : dk_X p s m args meth c b_Scales_ofTwo 3 R_Scales (some .int) g A) (hR : dk_Ri p l e rm_Scales_ofTwo s m args below meth c g A Q 3 b_Scales_ofTwo (some .int) (wC g ad T) res)  {x0 : Int32} {x1 : Int32} {x2 : Int32} {S : dk_S}  (hF : B_Scales_ofTwo_0 n T  x0 x1 x2 S = some res) : dk_J p l e rm_Scales_ofTwo s m args below meth c g A Q 3 0 0 0 [(0, .int x0), (1, .int x1), (2, .int x2)] [] (wC g ad T S) := by
  unfold B_Scales_ofTwo_0 at hF
  refine dk_iload_n (k := 0) (i := 0) X 0 rfl rfl d_Scales_ofTwo_0 ?_
  refine dk_if hF (fun hcm14 hF => ?_) (fun hcm14 hF => ?_)
  · refine dk_tsIn (v := -14) (tgt := 74) X d_Scales_ofTwo_1 (by rw [hcm14]; decide) (by decide) (by decide) rfl (by decide) ?_
    refine dk_iload_n (k := 1) (i := 1) X 1 rfl rfl d_Scales_ofTwo_74 ?_
    refine dk_if_eq (tgt := 86) X (by decide) d_Scales_ofTwo_75 hF (fun hF => ?_) (fun hF => ?_)
    · refine dk_iconst (v := 0) X (by decide) d_Scales_ofTwo_86 ?_
      exact dk_reti hR hF d_Scales_ofTwo_87
    · refine dk_iload_n (k := 2) (i := 2) X 2 rfl rfl d_Scales_ofTwo_78 ?_
      refine dk_if_eq (tgt := 86) X (by decide) d_Scales_ofTwo_79 hF (fun hF => ?_) (fun hF => ?_)
      · refine dk_iconst (v := 0) X (by decide) d_Scales_ofTwo_86 ?_
        exact dk_reti hR hF d_Scales_ofTwo_87
      · refine dk_iconst (v := 1) X (by decide) d_Scales_ofTwo_82 ?_
        refine dk_goto (tgt := 87) X (by decide) d_Scales_ofTwo_83 ?_
        exact dk_reti hR hF d_Scales_ofTwo_87
  · refine dk_if hF (fun hcm13 hF => ?_) (fun hcm13 hF => ?_)
    · refine dk_tsIn (v := -13) (tgt := 63) X d_Scales_ofTwo_1 (by rw [hcm13]; decide) (by decide) (by decide) rfl (by decide) ?_
      refine dk_iload_n (k := 1) (i := 1) X 1 rfl rfl d_Scales_ofTwo_63 ?_
      refine dk_iload_n (k := 2) (i := 2) X 2 rfl rfl d_Scales_ofTwo_64 ?_
      refine dk_icmp_ne (tgt := 72) X (by decide) d_Scales_ofTwo_65 hF (fun hF => ?_) (fun hF => ?_)
      · refine dk_iconst (v := 0) X (by decide) d_Scales_ofTwo_72 ?_
        exact dk_reti hR hF d_Scales_ofTwo_73
      · refine dk_iconst (v := 1) X (by decide) d_Scales_ofTwo_68 ?_
        refine dk_goto (tgt := 73) X (by decide) d_Scales_ofTwo_69 ?_
        exact dk_reti hR hF d_Scales_ofTwo_73
    · refine dk_if hF (fun hcm12 hF => ?_) (fun hcm12 hF => ?_)
      · refine dk_tsIn (v := -12) (tgt := 52) X d_Scales_ofTwo_1 (by rw [hcm12]; decide) (by decide) (by decide) rfl (by decide) ?_
        refine dk_iload_n (k := 1) (i := 1) X 1 rfl rfl d_Scales_ofTwo_52 ?_
        refine dk_iload_n (k := 2) (i := 2) X 2 rfl rfl d_Scales_ofTwo_53 ?_
        refine dk_icmp_ge (tgt := 61) X (by decide) d_Scales_ofTwo_54 hF (fun hF => ?_) (fun hF => ?_)
        · refine dk_iconst (v := 0) X (by decide) d_Scales_ofTwo_61 ?_
          exact dk_reti hR hF d_Scales_ofTwo_62
        · refine dk_iconst (v := 1) X (by decide) d_Scales_ofTwo_57 ?_
          refine dk_goto (tgt := 62) X (by decide) d_Scales_ofTwo_58 ?_
          exact dk_reti hR hF d_Scales_ofTwo_62
      · refine dk_if hF (fun hcm11 hF => ?_) (fun hcm11 hF => ?_)
        · refine dk_tsIn (v := -11) (tgt := 48) X d_Scales_ofTwo_1 (by rw [hcm11]; decide) (by decide) (by decide) rfl (by decide) ?_
          refine dk_iload_n (k := 1) (i := 1) X 1 rfl rfl d_Scales_ofTwo_48 ?_
          refine dk_iload_n (k := 2) (i := 2) X 2 rfl rfl d_Scales_ofTwo_49 ?_
          refine dk_isub X d_Scales_ofTwo_50 ?_
          exact dk_reti hR hF d_Scales_ofTwo_51
        · refine dk_if hF (fun hcm10 hF => ?_) (fun hcm10 hF => ?_)
          · refine dk_tsIn (v := -10) (tgt := 44) X d_Scales_ofTwo_1 (by rw [hcm10]; decide) (by decide) (by decide) rfl (by decide) ?_
            refine dk_iload_n (k := 1) (i := 1) X 1 rfl rfl d_Scales_ofTwo_44 ?_
            refine dk_iload_n (k := 2) (i := 2) X 2 rfl rfl d_Scales_ofTwo_45 ?_
            refine dk_iadd X d_Scales_ofTwo_46 ?_
            exact dk_reti hR hF d_Scales_ofTwo_47
          · refine dk_if hF (fun hcm9 hF => ?_) (fun hcm9 hF => ?_)
            · refine dk_tsIn (v := -9) (tgt := 40) X d_Scales_ofTwo_1 (by rw [hcm9]; decide) (by decide) (by decide) rfl (by decide) ?_
              refine dk_iload_n (k := 1) (i := 1) X 1 rfl rfl d_Scales_ofTwo_40 ?_
              refine dk_iload_n (k := 2) (i := 2) X 2 rfl rfl d_Scales_ofTwo_41 ?_
              refine dk_imul X d_Scales_ofTwo_42 ?_
              exact dk_reti hR hF d_Scales_ofTwo_43
            · refine dk_tsOut (tgt := 88) X d_Scales_ofTwo_1 (by have em14 := lv_neT hcm14 (a := -14) (by decide); have em13 := lv_neT hcm13 (a := -13) (by decide); have em12 := lv_neT hcm12 (a := -12) (by decide); have em11 := lv_neT hcm11 (a := -11) (by decide); have em10 := lv_neT hcm10 (a := -10) (by decide); have em9 := lv_neT hcm9 (a := -9) (by decide); omega) (by decide) ?_
              refine dk_iload_n (k := 1) (i := 1) X 1 rfl rfl d_Scales_ofTwo_88 ?_
              refine dk_if_ne (tgt := 96) X (by decide) d_Scales_ofTwo_89 hF (fun hF => ?_) (fun hF => ?_)
              · refine dk_iconst (v := 1) X (by decide) d_Scales_ofTwo_96 ?_
                refine dk_goto (tgt := 101) X (by decide) d_Scales_ofTwo_97 ?_
                exact dk_reti hR hF d_Scales_ofTwo_101
              · refine dk_iload_n (k := 2) (i := 2) X 2 rfl rfl d_Scales_ofTwo_92 ?_
                refine dk_if_eq (tgt := 100) X (by decide) d_Scales_ofTwo_93 hF (fun hF => ?_) (fun hF => ?_)
                · refine dk_iconst (v := 0) X (by decide) d_Scales_ofTwo_100 ?_
                  exact dk_reti hR hF d_Scales_ofTwo_101
                · refine dk_iconst (v := 1) X (by decide) d_Scales_ofTwo_96 ?_
                  refine dk_goto (tgt := 101) X (by decide) d_Scales_ofTwo_97 ?_
                  exact dk_reti hR hF d_Scales_ofTwo_101
def F_Scales_ofTwo (n T : Nat) (x0 : Int32) (x1 : Int32) (x2 : Int32) (S : dk_S) : Option (Int32 × dk_S) := B_Scales_ofTwo_0 n T x0 x1 x2 S
theorem c_Scales_ofTwo (l : Launch) (g : dk_G) (ad : Nat → Nat) (T n : Nat) (x0 : Int32) (x1 : Int32) (x2 : Int32)  (S : dk_S) : dk_Mi l g y_Scales_ofTwo b_Scales_ofTwo 3 rm_Scales_ofTwo (some .int) [.int x0, .int x1, .int x2] (wC g ad T) S (F_Scales_ofTwo n T x0 x1 x2 S) := dk_enteri (by decide) (Nat.le_of_ble_eq_true rfl) (fun p e s m args below meth c A Q res hF X hR => (kb_Scales_ofTwo_0 (n := n) X hR  hF))
abbrev b_Scales_setName : ByteArray := prog_6_method_2_code
def y_Scales_setName : MethodName := ⟨R_Scales, "setName", "(II)V"⟩
theorem d_Scales_setName_0 : decode b_Scales_setName 0 = .ok (.iload_n 1, 1) := by decide +kernel
theorem d_Scales_setName_1 : decode b_Scales_setName 1 = .ok (.iconst (-1), 1) := by decide +kernel
theorem d_Scales_setName_2 : decode b_Scales_setName 2 = .ok (.if_icmp .gt 18, 3) := by decide +kernel
theorem d_Scales_setName_5 : decode b_Scales_setName 5 = .ok (.iload_n 1, 1) := by decide +kernel
theorem d_Scales_setName_6 : decode b_Scales_setName 6 = .ok (.bipush (-6), 2) := by decide +kernel
theorem d_Scales_setName_8 : decode b_Scales_setName 8 = .ok (.if_icmp .lt 12, 3) := by decide +kernel
theorem d_Scales_setName_11 : decode b_Scales_setName 11 = .ok (.aload_n 0, 1) := by decide +kernel
theorem d_Scales_setName_12 : decode b_Scales_setName 12 = .ok (.getfield 9, 3) := by decide +kernel
theorem d_Scales_setName_15 : decode b_Scales_setName 15 = .ok (.iconst (-1), 1) := by decide +kernel
theorem d_Scales_setName_16 : decode b_Scales_setName 16 = .ok (.iload_n 1, 1) := by decide +kernel
theorem d_Scales_setName_17 : decode b_Scales_setName 17 = .ok (.isub, 1) := by decide +kernel
theorem d_Scales_setName_18 : decode b_Scales_setName 18 = .ok (.iload_n 2, 1) := by decide +kernel
theorem d_Scales_setName_19 : decode b_Scales_setName 19 = .ok (.iastore, 1) := by decide +kernel
theorem d_Scales_setName_20 : decode b_Scales_setName 20 = .ok (.return_, 1) := by decide +kernel
theorem v_Scales_setName : dk_Yv y_Scales_setName b_Scales_setName 3 (none) 2 := ⟨dk_in (List.mem_of_getElem? (i := 660) (by decide +kernel)) rfl, dk_in (List.mem_of_getElem? (i := 661) (by decide +kernel)) rfl, dk_in (List.mem_of_getElem? (i := 71) (by decide +kernel)) rfl, dk_in (List.mem_of_getElem? (i := 662) (by decide +kernel)) rfl, by decide +kernel, by decide +kernel, by decide +kernel⟩
abbrev rm_Scales_setName : Room := { frames := 0, cells := 0, slots := 0, locals := 0 }
theorem f_Scales_9 : Cond.fieldLink R_Scales 9 (T_Scales 0).1 (T_Scales 0).2.1 (T_Scales 0).2.2.1 ∈ dk_tb := dk_in (List.mem_of_getElem? (i := 232) (by decide +kernel)) rfl
def B_Scales_setName_0 (n T : Nat)  (x1 : Int32) (x2 : Int32) (S : dk_S) : Option dk_S :=
  if (-1 : Int32) < x1 then (some S) else (if x1 < (-6 : Int32) then (some S) else (dk_w S 16 6 ((-1 : Int32) - x1) x2 fun S1 => some S1))
set_option maxRecDepth 20000 in
theorem kb_Scales_setName_0 {p : Program} {l : Launch} {e : Env} {s : State} {m : MethodId} {args : Array Value} {below : List Frame} {meth : Method} {c : Code} {g : dk_G} {A : Nat → Prop} {Q : State → Prop} {ad : Nat → Nat} {T : Nat} {n : Nat} {res : dk_S} (X : dk_X p s m args meth c b_Scales_setName 3 R_Scales (none) g A) (hR : dk_Rv p l e rm_Scales_setName s m args below meth c g A Q 3 b_Scales_setName (none) (wC g ad T) res)  {x1 : Int32} {x2 : Int32} {S : dk_S}  (hF : B_Scales_setName_0 n T  x1 x2 S = some res) : dk_J p l e rm_Scales_setName s m args below meth c g A Q 3 0 0 0 [(0, .ref (ad 15)), (1, .int x1), (2, .int x2)] [] (wC g ad T S) := by
  unfold B_Scales_setName_0 at hF
  refine dk_iload_n (k := 1) (i := 1) X 1 rfl rfl d_Scales_setName_0 ?_
  refine dk_iconst (v := -1) X (by decide) d_Scales_setName_1 ?_
  refine dk_icmp_gt (tgt := 20) X (by decide) d_Scales_setName_2 hF (fun hF => ?_) (fun hF => ?_)
  · exact dk_retv hR hF d_Scales_setName_20
  · refine dk_iload_n (k := 1) (i := 1) X 1 rfl rfl d_Scales_setName_5 ?_
    refine dk_bipush (v := -6) X (by decide) d_Scales_setName_6 ?_
    refine dk_icmp_lt (tgt := 20) X (by decide) d_Scales_setName_8 hF (fun hF => ?_) (fun hF => ?_)
    · exact dk_retv hR hF d_Scales_setName_20
    · refine dk_aload_n (k := 0) (i := 0) X 0 rfl rfl d_Scales_setName_11 ?_
      refine dk_get X q_Scales 15 0 (by decide) (oC_Scales g ad T S) rfl f_Scales_9 d_Scales_setName_12 ?_
      refine dk_iconst (v := -1) X (by decide) d_Scales_setName_15 ?_
      refine dk_iload_n (k := 1) (i := 1) X 1 rfl rfl d_Scales_setName_16 ?_
      refine dk_isub X d_Scales_setName_17 ?_
      refine dk_iload_n (k := 2) (i := 2) X 2 rfl rfl d_Scales_setName_18 ?_
      refine dk_iast X 16 (aC_16 g ad T S) (sC_16 g ad T S _ _) d_Scales_setName_19 hF (fun S1 hF => ?_)
      exact dk_retv hR hF d_Scales_setName_20
def F_Scales_setName (n T : Nat) (x1 : Int32) (x2 : Int32) (S : dk_S) : Option dk_S := B_Scales_setName_0 n T x1 x2 S
theorem c_Scales_setName (l : Launch) (g : dk_G) (ad : Nat → Nat) (T n : Nat) (x1 : Int32) (x2 : Int32)  (S : dk_S) : dk_Mv l g y_Scales_setName b_Scales_setName 3 rm_Scales_setName (none) [.ref (ad 15), .int x1, .int x2] (wC g ad T) S (F_Scales_setName n T x1 x2 S) := dk_enterv (by decide) rfl (Nat.le_of_ble_eq_true rfl) (fun p e s m args below meth c A Q res hF X hR => (kb_Scales_setName_0 (n := n) X hR  hF))
abbrev b_Scales_value : ByteArray := prog_6_method_3_code
def y_Scales_value : MethodName := ⟨R_Scales, "value", "([I)I"⟩
theorem d_Scales_value_0 : decode b_Scales_value 0 = .ok (.iconst 0, 1) := by decide +kernel
theorem d_Scales_value_1 : decode b_Scales_value 1 = .ok (.istore_n 2, 1) := by decide +kernel
theorem d_Scales_value_2 : decode b_Scales_value 2 = .ok (.iconst 0, 1) := by decide +kernel
theorem d_Scales_value_3 : decode b_Scales_value 3 = .ok (.istore_n 3, 1) := by decide +kernel
theorem d_Scales_value_4 : decode b_Scales_value 4 = .ok (.iload_n 3, 1) := by decide +kernel
theorem d_Scales_value_5 : decode b_Scales_value 5 = .ok (.aload_n 1, 1) := by decide +kernel
theorem d_Scales_value_6 : decode b_Scales_value 6 = .ok (.arraylength, 1) := by decide +kernel
theorem d_Scales_value_7 : decode b_Scales_value 7 = .ok (.if_icmp .ge 132, 3) := by decide +kernel
theorem d_Scales_value_10 : decode b_Scales_value 10 = .ok (.aload_n 1, 1) := by decide +kernel
theorem d_Scales_value_11 : decode b_Scales_value 11 = .ok (.iload_n 3, 1) := by decide +kernel
theorem d_Scales_value_12 : decode b_Scales_value 12 = .ok (.iaload, 1) := by decide +kernel
theorem d_Scales_value_13 : decode b_Scales_value 13 = .ok (.istore 4, 2) := by decide +kernel
theorem d_Scales_value_15 : decode b_Scales_value 15 = .ok (.iload 4, 2) := by decide +kernel
theorem d_Scales_value_17 : decode b_Scales_value 17 = .ok (.bipush (-6), 2) := by decide +kernel
theorem d_Scales_value_19 : decode b_Scales_value 19 = .ok (.if_icmp .lt 43, 3) := by decide +kernel
theorem d_Scales_value_22 : decode b_Scales_value 22 = .ok (.iload_n 2, 1) := by decide +kernel
theorem d_Scales_value_23 : decode b_Scales_value 23 = .ok (.aload_n 0, 1) := by decide +kernel
theorem d_Scales_value_24 : decode b_Scales_value 24 = .ok (.getfield 15, 3) := by decide +kernel
theorem d_Scales_value_27 : decode b_Scales_value 27 = .ok (.arraylength, 1) := by decide +kernel
theorem d_Scales_value_28 : decode b_Scales_value 28 = .ok (.if_icmp .ge 105, 3) := by decide +kernel
theorem d_Scales_value_31 : decode b_Scales_value 31 = .ok (.aload_n 0, 1) := by decide +kernel
theorem d_Scales_value_32 : decode b_Scales_value 32 = .ok (.getfield 15, 3) := by decide +kernel
theorem d_Scales_value_35 : decode b_Scales_value 35 = .ok (.iload_n 2, 1) := by decide +kernel
theorem d_Scales_value_36 : decode b_Scales_value 36 = .ok (.iload 4, 2) := by decide +kernel
theorem d_Scales_value_38 : decode b_Scales_value 38 = .ok (.ifCond .lt 8, 3) := by decide +kernel
theorem d_Scales_value_41 : decode b_Scales_value 41 = .ok (.iload 4, 2) := by decide +kernel
theorem d_Scales_value_43 : decode b_Scales_value 43 = .ok (.goto 12, 3) := by decide +kernel
theorem d_Scales_value_46 : decode b_Scales_value 46 = .ok (.aload_n 0, 1) := by decide +kernel
theorem d_Scales_value_47 : decode b_Scales_value 47 = .ok (.getfield 9, 3) := by decide +kernel
theorem d_Scales_value_50 : decode b_Scales_value 50 = .ok (.iconst (-1), 1) := by decide +kernel
theorem d_Scales_value_51 : decode b_Scales_value 51 = .ok (.iload 4, 2) := by decide +kernel
theorem d_Scales_value_53 : decode b_Scales_value 53 = .ok (.isub, 1) := by decide +kernel
theorem d_Scales_value_54 : decode b_Scales_value 54 = .ok (.iaload, 1) := by decide +kernel
theorem d_Scales_value_55 : decode b_Scales_value 55 = .ok (.iastore, 1) := by decide +kernel
theorem d_Scales_value_56 : decode b_Scales_value 56 = .ok (.iinc 2 1, 3) := by decide +kernel
theorem d_Scales_value_59 : decode b_Scales_value 59 = .ok (.goto 74, 3) := by decide +kernel
theorem d_Scales_value_62 : decode b_Scales_value 62 = .ok (.iload 4, 2) := by decide +kernel
theorem d_Scales_value_64 : decode b_Scales_value 64 = .ok (.bipush (-8), 2) := by decide +kernel
theorem d_Scales_value_66 : decode b_Scales_value 66 = .ok (.if_icmp .lt 32, 3) := by decide +kernel
theorem d_Scales_value_69 : decode b_Scales_value 69 = .ok (.iload_n 2, 1) := by decide +kernel
theorem d_Scales_value_70 : decode b_Scales_value 70 = .ok (.iconst 1, 1) := by decide +kernel
theorem d_Scales_value_71 : decode b_Scales_value 71 = .ok (.if_icmp .lt 62, 3) := by decide +kernel
theorem d_Scales_value_74 : decode b_Scales_value 74 = .ok (.aload_n 0, 1) := by decide +kernel
theorem d_Scales_value_75 : decode b_Scales_value 75 = .ok (.getfield 15, 3) := by decide +kernel
theorem d_Scales_value_78 : decode b_Scales_value 78 = .ok (.iload_n 2, 1) := by decide +kernel
theorem d_Scales_value_79 : decode b_Scales_value 79 = .ok (.iconst 1, 1) := by decide +kernel
theorem d_Scales_value_80 : decode b_Scales_value 80 = .ok (.isub, 1) := by decide +kernel
theorem d_Scales_value_81 : decode b_Scales_value 81 = .ok (.iload 4, 2) := by decide +kernel
theorem d_Scales_value_83 : decode b_Scales_value 83 = .ok (.aload_n 0, 1) := by decide +kernel
theorem d_Scales_value_84 : decode b_Scales_value 84 = .ok (.getfield 15, 3) := by decide +kernel
theorem d_Scales_value_87 : decode b_Scales_value 87 = .ok (.iload_n 2, 1) := by decide +kernel
theorem d_Scales_value_88 : decode b_Scales_value 88 = .ok (.iconst 1, 1) := by decide +kernel
theorem d_Scales_value_89 : decode b_Scales_value 89 = .ok (.isub, 1) := by decide +kernel
theorem d_Scales_value_90 : decode b_Scales_value 90 = .ok (.iaload, 1) := by decide +kernel
theorem d_Scales_value_91 : decode b_Scales_value 91 = .ok (.invokestatic 22, 3) := by decide +kernel
theorem d_Scales_value_94 : decode b_Scales_value 94 = .ok (.iastore, 1) := by decide +kernel
theorem d_Scales_value_95 : decode b_Scales_value 95 = .ok (.goto 38, 3) := by decide +kernel
theorem d_Scales_value_98 : decode b_Scales_value 98 = .ok (.iload_n 2, 1) := by decide +kernel
theorem d_Scales_value_99 : decode b_Scales_value 99 = .ok (.iconst 2, 1) := by decide +kernel
theorem d_Scales_value_100 : decode b_Scales_value 100 = .ok (.if_icmp .lt 33, 3) := by decide +kernel
theorem d_Scales_value_103 : decode b_Scales_value 103 = .ok (.iinc 2 (-1), 3) := by decide +kernel
theorem d_Scales_value_106 : decode b_Scales_value 106 = .ok (.aload_n 0, 1) := by decide +kernel
theorem d_Scales_value_107 : decode b_Scales_value 107 = .ok (.getfield 15, 3) := by decide +kernel
theorem d_Scales_value_110 : decode b_Scales_value 110 = .ok (.iload_n 2, 1) := by decide +kernel
theorem d_Scales_value_111 : decode b_Scales_value 111 = .ok (.iconst 1, 1) := by decide +kernel
theorem d_Scales_value_112 : decode b_Scales_value 112 = .ok (.isub, 1) := by decide +kernel
theorem d_Scales_value_113 : decode b_Scales_value 113 = .ok (.iload 4, 2) := by decide +kernel
theorem d_Scales_value_115 : decode b_Scales_value 115 = .ok (.aload_n 0, 1) := by decide +kernel
theorem d_Scales_value_116 : decode b_Scales_value 116 = .ok (.getfield 15, 3) := by decide +kernel
theorem d_Scales_value_119 : decode b_Scales_value 119 = .ok (.iload_n 2, 1) := by decide +kernel
theorem d_Scales_value_120 : decode b_Scales_value 120 = .ok (.iconst 1, 1) := by decide +kernel
theorem d_Scales_value_121 : decode b_Scales_value 121 = .ok (.isub, 1) := by decide +kernel
theorem d_Scales_value_122 : decode b_Scales_value 122 = .ok (.iaload, 1) := by decide +kernel
theorem d_Scales_value_123 : decode b_Scales_value 123 = .ok (.aload_n 0, 1) := by decide +kernel
theorem d_Scales_value_124 : decode b_Scales_value 124 = .ok (.getfield 15, 3) := by decide +kernel
theorem d_Scales_value_127 : decode b_Scales_value 127 = .ok (.iload_n 2, 1) := by decide +kernel
theorem d_Scales_value_128 : decode b_Scales_value 128 = .ok (.iaload, 1) := by decide +kernel
theorem d_Scales_value_129 : decode b_Scales_value 129 = .ok (.invokestatic 26, 3) := by decide +kernel
theorem d_Scales_value_132 : decode b_Scales_value 132 = .ok (.iastore, 1) := by decide +kernel
theorem d_Scales_value_133 : decode b_Scales_value 133 = .ok (.iinc 3 1, 3) := by decide +kernel
theorem d_Scales_value_136 : decode b_Scales_value 136 = .ok (.goto (-132), 3) := by decide +kernel
theorem d_Scales_value_139 : decode b_Scales_value 139 = .ok (.iload_n 2, 1) := by decide +kernel
theorem d_Scales_value_140 : decode b_Scales_value 140 = .ok (.ifCond .le 14, 3) := by decide +kernel
theorem d_Scales_value_143 : decode b_Scales_value 143 = .ok (.aload_n 0, 1) := by decide +kernel
theorem d_Scales_value_144 : decode b_Scales_value 144 = .ok (.getfield 15, 3) := by decide +kernel
theorem d_Scales_value_147 : decode b_Scales_value 147 = .ok (.iload_n 2, 1) := by decide +kernel
theorem d_Scales_value_148 : decode b_Scales_value 148 = .ok (.iconst 1, 1) := by decide +kernel
theorem d_Scales_value_149 : decode b_Scales_value 149 = .ok (.isub, 1) := by decide +kernel
theorem d_Scales_value_150 : decode b_Scales_value 150 = .ok (.iaload, 1) := by decide +kernel
theorem d_Scales_value_151 : decode b_Scales_value 151 = .ok (.goto 4, 3) := by decide +kernel
theorem d_Scales_value_154 : decode b_Scales_value 154 = .ok (.iconst 0, 1) := by decide +kernel
theorem d_Scales_value_155 : decode b_Scales_value 155 = .ok (.ireturn, 1) := by decide +kernel
theorem v_Scales_value : dk_Yv y_Scales_value b_Scales_value 5 (some .int) 1 := ⟨dk_in (List.mem_of_getElem? (i := 668) (by decide +kernel)) rfl, dk_in (List.mem_of_getElem? (i := 669) (by decide +kernel)) rfl, dk_in (List.mem_of_getElem? (i := 71) (by decide +kernel)) rfl, dk_in (List.mem_of_getElem? (i := 670) (by decide +kernel)) rfl, by decide +kernel, by decide +kernel, by decide +kernel⟩
abbrev rm_Scales_value : Room := { frames := 1, cells := 0, slots := 0, locals := 22 }
theorem f_Scales_15 : Cond.fieldLink R_Scales 15 (T_Scales 1).1 (T_Scales 1).2.1 (T_Scales 1).2.2.1 ∈ dk_tb := dk_in (List.mem_of_getElem? (i := 233) (by decide +kernel)) rfl
theorem m_Scales_22 : Cond.methodLink R_Scales 22 y_Scales_ofOne ∈ dk_tb := dk_in (List.mem_of_getElem? (i := 671) (by decide +kernel)) rfl
theorem m_Scales_26 : Cond.methodLink R_Scales 26 y_Scales_ofTwo ∈ dk_tb := dk_in (List.mem_of_getElem? (i := 674) (by decide +kernel)) rfl
def B_Scales_value_133 (n T : Nat) (k4 : Nat → Nat → Int32 → Int32 → dk_S → Option (Int32 × dk_S)) (tx1 : Nat) (bx1 : Nat) (x2 : Int32) (x3 : Int32) (S : dk_S) : Option (Int32 × dk_S) :=
  k4 tx1 bx1 x2 (x3 + (1 : Int32)) S
set_option maxRecDepth 20000 in
theorem kb_Scales_value_133 {p : Program} {l : Launch} {e : Env} {s : State} {m : MethodId} {args : Array Value} {below : List Frame} {meth : Method} {c : Code} {g : dk_G} {A : Nat → Prop} {Q : State → Prop} {ad : Nat → Nat} {T : Nat} {n : Nat} {res : (Int32 × dk_S)} (X : dk_X p s m args meth c b_Scales_value 5 R_Scales (some .int) g A) (hR : dk_Ri p l e rm_Scales_value s m args below meth c g A Q 5 b_Scales_value (some .int) (wC g ad T) res) {k4 : Nat → Nat → Int32 → Int32 → dk_S → Option (Int32 × dk_S)} (hk4 : ∀ (tx1 : Nat) (bx1 : Nat) (x2 : Int32) (x3 : Int32) (hx1 : tx1 < T) (hbx1 : bx1 < 2) (S : dk_S), k4 tx1 bx1 x2 x3 S = some res → dk_J p l e rm_Scales_value s m args below meth c g A Q 5 0 0 4 [(0, .ref (ad 15)), (1, .ref (ad (44 + 3 * tx1 + bx1))), (2, .int x2), (3, .int x3)] [] (wC g ad T S)) {tx1 : Nat} {bx1 : Nat} {x2 : Int32} {x3 : Int32} {S : dk_S} (hx1 : tx1 < T) (hbx1 : bx1 < 2) (hF : B_Scales_value_133 n T k4 tx1 bx1 x2 x3 S = some res) : dk_J p l e rm_Scales_value s m args below meth c g A Q 5 0 0 133 [(0, .ref (ad 15)), (1, .ref (ad (44 + 3 * tx1 + bx1))), (2, .int x2), (3, .int x3)] [] (wC g ad T S) := by
  unfold B_Scales_value_133 at hF
  refine dk_iinc (i := 3) (v := (x3 + (1 : Int32))) (lv' := [(3, .int (x3 + (1 : Int32))), (0, .ref (ad 15)), (1, .ref (ad (44 + 3 * tx1 + bx1))), (2, .int x2)]) X 3 rfl (dk_ii _ (by decide)) (by decide) rfl d_Scales_value_133 ?_
  refine dk_goto (tgt := 4) X (by decide) d_Scales_value_136 ?_
  exact dk_sub [1, 2, 3, 0] rfl (hk4 tx1 bx1 x2 (x3 + (1 : Int32)) hx1 hbx1 S hF)
def B_Scales_value_55 (n T : Nat) (k4 : Nat → Nat → Int32 → Int32 → dk_S → Option (Int32 × dk_S)) (tx1 : Nat) (bx1 : Nat) (x2 : Int32) (x3 : Int32) (u1 : Int32) (u2 : Int32) (S : dk_S) : Option (Int32 × dk_S) :=
  dk_w S 17 160 u1 u2 fun S1 => B_Scales_value_133 n T k4 tx1 bx1 (x2 + (1 : Int32)) x3 S1
set_option maxRecDepth 20000 in
theorem kb_Scales_value_55 {p : Program} {l : Launch} {e : Env} {s : State} {m : MethodId} {args : Array Value} {below : List Frame} {meth : Method} {c : Code} {g : dk_G} {A : Nat → Prop} {Q : State → Prop} {ad : Nat → Nat} {T : Nat} {n : Nat} {res : (Int32 × dk_S)} (X : dk_X p s m args meth c b_Scales_value 5 R_Scales (some .int) g A) (hR : dk_Ri p l e rm_Scales_value s m args below meth c g A Q 5 b_Scales_value (some .int) (wC g ad T) res) {k4 : Nat → Nat → Int32 → Int32 → dk_S → Option (Int32 × dk_S)} (hk4 : ∀ (tx1 : Nat) (bx1 : Nat) (x2 : Int32) (x3 : Int32) (hx1 : tx1 < T) (hbx1 : bx1 < 2) (S : dk_S), k4 tx1 bx1 x2 x3 S = some res → dk_J p l e rm_Scales_value s m args below meth c g A Q 5 0 0 4 [(0, .ref (ad 15)), (1, .ref (ad (44 + 3 * tx1 + bx1))), (2, .int x2), (3, .int x3)] [] (wC g ad T S)) {tx1 : Nat} {bx1 : Nat} {x2 : Int32} {x3 : Int32} {u1 : Int32} {u2 : Int32} {S : dk_S} (hx1 : tx1 < T) (hbx1 : bx1 < 2) (hF : B_Scales_value_55 n T k4 tx1 bx1 x2 x3 u1 u2 S = some res) : dk_J p l e rm_Scales_value s m args below meth c g A Q 5 0 0 55 [(0, .ref (ad 15)), (1, .ref (ad (44 + 3 * tx1 + bx1))), (2, .int x2), (3, .int x3)] [.int u2, .int u1, .ref (ad 17)] (wC g ad T S) := by
  unfold B_Scales_value_55 at hF
  refine dk_iast X 17 (aC_17 g ad T S) (sC_17 g ad T S _ _) d_Scales_value_55 hF (fun S1 hF => ?_)
  refine dk_iinc (i := 2) (v := (x2 + (1 : Int32))) (lv' := [(2, .int (x2 + (1 : Int32))), (0, .ref (ad 15)), (1, .ref (ad (44 + 3 * tx1 + bx1))), (3, .int x3)]) X 2 rfl (dk_ii _ (by decide)) (by decide) rfl d_Scales_value_56 ?_
  refine dk_goto (tgt := 133) X (by decide) d_Scales_value_59 ?_
  exact dk_sub [1, 2, 0, 3] rfl (kb_Scales_value_133 (n := n) X hR hk4 hx1 hbx1 hF)
def B_Scales_value_4b (n T : Nat) (k4 : Nat → Nat → Int32 → Int32 → dk_S → Option (Int32 × dk_S)) (tx1 : Nat) (bx1 : Nat) (x2 : Int32) (x3 : Int32) (S : dk_S) : Option (Int32 × dk_S) :=
  if (nI (S (1001 + 4 * tx1 + 2 * bx1) 0).toNatClampNeg) ≤ x3 then (if x2 ≤ 0 then (some ((0 : Int32), S)) else (dk_r 160 (S 17) (x2 - (1 : Int32)) fun v2 => some (v2, S))) else (dk_r (S (1001 + 4 * tx1 + 2 * bx1) 0).toNatClampNeg (S (1000 + 4 * tx1 + 2 * bx1)) x3 fun v3 => if v3 < (-6 : Int32) then (if v3 < (-8 : Int32) then (if x2 < (2 : Int32) then (B_Scales_value_133 n T k4 tx1 bx1 x2 x3 S) else (dk_r 160 (S 17) ((x2 + (-1 : Int32)) - (1 : Int32)) fun v4 => dk_r 160 (S 17) (x2 + (-1 : Int32)) fun v5 => dk_c (F_Scales_ofTwo n T v3 v4 v5 S) fun r7 S6 => dk_w S6 17 160 ((x2 + (-1 : Int32)) - (1 : Int32)) r7 fun S8 => B_Scales_value_133 n T k4 tx1 bx1 (x2 + (-1 : Int32)) x3 S8)) else (if x2 < (1 : Int32) then (B_Scales_value_133 n T k4 tx1 bx1 x2 x3 S) else (dk_r 160 (S 17) (x2 - (1 : Int32)) fun v9 => dk_c (F_Scales_ofOne n T v3 v9 S) fun r11 S10 => dk_w S10 17 160 (x2 - (1 : Int32)) r11 fun S12 => B_Scales_value_133 n T k4 tx1 bx1 x2 x3 S12))) else (if (nI 160) ≤ x2 then (B_Scales_value_133 n T k4 tx1 bx1 x2 x3 S) else (if v3 < 0 then (dk_r 6 (S 16) ((-1 : Int32) - v3) fun v13 => B_Scales_value_55 n T k4 tx1 bx1 x2 x3 x2 v13 S) else (B_Scales_value_55 n T k4 tx1 bx1 x2 x3 x2 v3 S))))
set_option maxRecDepth 20000 in
theorem kb_Scales_value_4b {p : Program} {l : Launch} {e : Env} {s : State} {m : MethodId} {args : Array Value} {below : List Frame} {meth : Method} {c : Code} {g : dk_G} {A : Nat → Prop} {Q : State → Prop} {ad : Nat → Nat} {T : Nat} {n : Nat} {res : (Int32 × dk_S)} (X : dk_X p s m args meth c b_Scales_value 5 R_Scales (some .int) g A) (hR : dk_Ri p l e rm_Scales_value s m args below meth c g A Q 5 b_Scales_value (some .int) (wC g ad T) res) {k4 : Nat → Nat → Int32 → Int32 → dk_S → Option (Int32 × dk_S)} (hk4 : ∀ (tx1 : Nat) (bx1 : Nat) (x2 : Int32) (x3 : Int32) (hx1 : tx1 < T) (hbx1 : bx1 < 2) (S : dk_S), k4 tx1 bx1 x2 x3 S = some res → dk_J p l e rm_Scales_value s m args below meth c g A Q 5 0 0 4 [(0, .ref (ad 15)), (1, .ref (ad (44 + 3 * tx1 + bx1))), (2, .int x2), (3, .int x3)] [] (wC g ad T S)) {tx1 : Nat} {bx1 : Nat} {x2 : Int32} {x3 : Int32} {S : dk_S} (hx1 : tx1 < T) (hbx1 : bx1 < 2) (hF : B_Scales_value_4b n T k4 tx1 bx1 x2 x3 S = some res) : dk_J p l e rm_Scales_value s m args below meth c g A Q 5 0 0 4 [(0, .ref (ad 15)), (1, .ref (ad (44 + 3 * tx1 + bx1))), (2, .int x2), (3, .int x3)] [] (wC g ad T S) := by
  unfold B_Scales_value_4b at hF
  refine dk_iload_n (k := 3) (i := 3) X 3 rfl rfl d_Scales_value_4 ?_
  refine dk_aload_n (k := 1) (i := 1) X 1 rfl rfl d_Scales_value_5 ?_
  refine dk_alen X (43 + 3 * tx1 + (bx1 + 1)) 0 (aC_code g ad T S tx1 bx1 hx1 hbx1) rfl d_Scales_value_6 ?_
  refine dk_icmp_ge (tgt := 139) X (by decide) d_Scales_value_7 hF (fun hF => ?_) (fun hF => ?_)
  · refine dk_iload_n (k := 2) (i := 2) X 2 rfl rfl d_Scales_value_139 ?_
    refine dk_if_le (tgt := 154) X (by decide) d_Scales_value_140 hF (fun hF => ?_) (fun hF => ?_)
    · refine dk_iconst (v := 0) X (by decide) d_Scales_value_154 ?_
      exact dk_reti hR hF d_Scales_value_155
    · refine dk_aload_n (k := 0) (i := 0) X 0 rfl rfl d_Scales_value_143 ?_
      refine dk_get X q_Scales 15 1 (by decide) (oC_Scales g ad T S) rfl f_Scales_15 d_Scales_value_144 ?_
      refine dk_iload_n (k := 2) (i := 2) X 2 rfl rfl d_Scales_value_147 ?_
      refine dk_iconst (v := 1) X (by decide) d_Scales_value_148 ?_
      refine dk_isub X d_Scales_value_149 ?_
      refine dk_iald X 17 (aC_17 g ad T S) d_Scales_value_150 hF (fun v2 hF => ?_)
      refine dk_goto (tgt := 155) X (by decide) d_Scales_value_151 ?_
      exact dk_reti hR hF d_Scales_value_155
  · refine dk_aload_n (k := 1) (i := 1) X 1 rfl rfl d_Scales_value_10 ?_
    refine dk_iload_n (k := 3) (i := 3) X 3 rfl rfl d_Scales_value_11 ?_
    refine dk_iald X (43 + 3 * tx1 + (bx1 + 1)) (aC_code g ad T S tx1 bx1 hx1 hbx1) d_Scales_value_12 hF (fun v3 hF => ?_)
    refine dk_istore (i := 4) (lv' := [(4, .int v3), (0, .ref (ad 15)), (1, .ref (ad (44 + 3 * tx1 + bx1))), (2, .int x2), (3, .int x3)]) X (by decide) rfl d_Scales_value_13 ?_
    refine dk_iload (i := 4) X 0 rfl d_Scales_value_15 ?_
    refine dk_bipush (v := -6) X (by decide) d_Scales_value_17 ?_
    refine dk_icmp_lt (tgt := 62) X (by decide) d_Scales_value_19 hF (fun hF => ?_) (fun hF => ?_)
    · refine dk_iload (i := 4) X 0 rfl d_Scales_value_62 ?_
      refine dk_bipush (v := -8) X (by decide) d_Scales_value_64 ?_
      refine dk_icmp_lt (tgt := 98) X (by decide) d_Scales_value_66 hF (fun hF => ?_) (fun hF => ?_)
      · refine dk_iload_n (k := 2) (i := 2) X 3 rfl rfl d_Scales_value_98 ?_
        refine dk_iconst (v := 2) X (by decide) d_Scales_value_99 ?_
        refine dk_icmp_lt (tgt := 133) X (by decide) d_Scales_value_100 hF (fun hF => ?_) (fun hF => ?_)
        · exact dk_sub [1, 2, 3, 4] rfl (kb_Scales_value_133 (n := n) X hR hk4 hx1 hbx1 hF)
        · refine dk_iinc (i := 2) (v := (x2 + (-1 : Int32))) (lv' := [(2, .int (x2 + (-1 : Int32))), (4, .int v3), (0, .ref (ad 15)), (1, .ref (ad (44 + 3 * tx1 + bx1))), (3, .int x3)]) X 3 rfl (dk_ii _ (by decide)) (by decide) rfl d_Scales_value_103 ?_
          refine dk_aload_n (k := 0) (i := 0) X 2 rfl rfl d_Scales_value_106 ?_
          refine dk_get X q_Scales 15 1 (by decide) (oC_Scales g ad T S) rfl f_Scales_15 d_Scales_value_107 ?_
          refine dk_iload_n (k := 2) (i := 2) X 0 rfl rfl d_Scales_value_110 ?_
          refine dk_iconst (v := 1) X (by decide) d_Scales_value_111 ?_
          refine dk_isub X d_Scales_value_112 ?_
          refine dk_iload (i := 4) X 1 rfl d_Scales_value_113 ?_
          refine dk_aload_n (k := 0) (i := 0) X 2 rfl rfl d_Scales_value_115 ?_
          refine dk_get X q_Scales 15 1 (by decide) (oC_Scales g ad T S) rfl f_Scales_15 d_Scales_value_116 ?_
          refine dk_iload_n (k := 2) (i := 2) X 0 rfl rfl d_Scales_value_119 ?_
          refine dk_iconst (v := 1) X (by decide) d_Scales_value_120 ?_
          refine dk_isub X d_Scales_value_121 ?_
          refine dk_iald X 17 (aC_17 g ad T S) d_Scales_value_122 hF (fun v4 hF => ?_)
          refine dk_aload_n (k := 0) (i := 0) X 2 rfl rfl d_Scales_value_123 ?_
          refine dk_get X q_Scales 15 1 (by decide) (oC_Scales g ad T S) rfl f_Scales_15 d_Scales_value_124 ?_
          refine dk_iload_n (k := 2) (i := 2) X 0 rfl rfl d_Scales_value_127 ?_
          refine dk_iald X 17 (aC_17 g ad T S) d_Scales_value_128 hF (fun v5 hF => ?_)
          refine dk_callSi X v_Scales_ofTwo [.int v3, .int v4, .int v5] (c_Scales_ofTwo l g ad T n v3 v4 v5 S) m_Scales_26 rfl rfl ⟨rfl, rfl, Nat.le_of_ble_eq_true rfl, Nat.le_of_ble_eq_true rfl, Nat.le_refl _, Nat.le_refl _⟩ (Nat.le_of_ble_eq_true rfl) d_Scales_value_129 hF (fun r7 S6 hF => ?_)
          refine dk_iast X 17 (aC_17 g ad T S6) (sC_17 g ad T S6 _ _) d_Scales_value_132 hF (fun S8 hF => ?_)
          exact dk_sub [2, 3, 0, 4] rfl (kb_Scales_value_133 (n := n) X hR hk4 hx1 hbx1 hF)
      · refine dk_iload_n (k := 2) (i := 2) X 3 rfl rfl d_Scales_value_69 ?_
        refine dk_iconst (v := 1) X (by decide) d_Scales_value_70 ?_
        refine dk_icmp_lt (tgt := 133) X (by decide) d_Scales_value_71 hF (fun hF => ?_) (fun hF => ?_)
        · exact dk_sub [1, 2, 3, 4] rfl (kb_Scales_value_133 (n := n) X hR hk4 hx1 hbx1 hF)
        · refine dk_aload_n (k := 0) (i := 0) X 1 rfl rfl d_Scales_value_74 ?_
          refine dk_get X q_Scales 15 1 (by decide) (oC_Scales g ad T S) rfl f_Scales_15 d_Scales_value_75 ?_
          refine dk_iload_n (k := 2) (i := 2) X 3 rfl rfl d_Scales_value_78 ?_
          refine dk_iconst (v := 1) X (by decide) d_Scales_value_79 ?_
          refine dk_isub X d_Scales_value_80 ?_
          refine dk_iload (i := 4) X 0 rfl d_Scales_value_81 ?_
          refine dk_aload_n (k := 0) (i := 0) X 1 rfl rfl d_Scales_value_83 ?_
          refine dk_get X q_Scales 15 1 (by decide) (oC_Scales g ad T S) rfl f_Scales_15 d_Scales_value_84 ?_
          refine dk_iload_n (k := 2) (i := 2) X 3 rfl rfl d_Scales_value_87 ?_
          refine dk_iconst (v := 1) X (by decide) d_Scales_value_88 ?_
          refine dk_isub X d_Scales_value_89 ?_
          refine dk_iald X 17 (aC_17 g ad T S) d_Scales_value_90 hF (fun v9 hF => ?_)
          refine dk_callSi X v_Scales_ofOne [.int v3, .int v9] (c_Scales_ofOne l g ad T n v3 v9 S) m_Scales_22 rfl rfl ⟨rfl, rfl, Nat.le_of_ble_eq_true rfl, Nat.le_of_ble_eq_true rfl, Nat.le_refl _, Nat.le_refl _⟩ (Nat.le_of_ble_eq_true rfl) d_Scales_value_91 hF (fun r11 S10 hF => ?_)
          refine dk_iast X 17 (aC_17 g ad T S10) (sC_17 g ad T S10 _ _) d_Scales_value_94 hF (fun S12 hF => ?_)
          refine dk_goto (tgt := 133) X (by decide) d_Scales_value_95 ?_
          exact dk_sub [1, 2, 3, 4] rfl (kb_Scales_value_133 (n := n) X hR hk4 hx1 hbx1 hF)
    · refine dk_iload_n (k := 2) (i := 2) X 3 rfl rfl d_Scales_value_22 ?_
      refine dk_aload_n (k := 0) (i := 0) X 1 rfl rfl d_Scales_value_23 ?_
      refine dk_get X q_Scales 15 1 (by decide) (oC_Scales g ad T S) rfl f_Scales_15 d_Scales_value_24 ?_
      refine dk_alen X 17 0 (aC_17 g ad T S) rfl d_Scales_value_27 ?_
      refine dk_icmp_ge (tgt := 133) X (by decide) d_Scales_value_28 hF (fun hF => ?_) (fun hF => ?_)
      · exact dk_sub [1, 2, 3, 4] rfl (kb_Scales_value_133 (n := n) X hR hk4 hx1 hbx1 hF)
      · refine dk_aload_n (k := 0) (i := 0) X 1 rfl rfl d_Scales_value_31 ?_
        refine dk_get X q_Scales 15 1 (by decide) (oC_Scales g ad T S) rfl f_Scales_15 d_Scales_value_32 ?_
        refine dk_iload_n (k := 2) (i := 2) X 3 rfl rfl d_Scales_value_35 ?_
        refine dk_iload (i := 4) X 0 rfl d_Scales_value_36 ?_
        refine dk_if_lt (tgt := 46) X (by decide) d_Scales_value_38 hF (fun hF => ?_) (fun hF => ?_)
        · refine dk_aload_n (k := 0) (i := 0) X 1 rfl rfl d_Scales_value_46 ?_
          refine dk_get X q_Scales 15 0 (by decide) (oC_Scales g ad T S) rfl f_Scales_9 d_Scales_value_47 ?_
          refine dk_iconst (v := -1) X (by decide) d_Scales_value_50 ?_
          refine dk_iload (i := 4) X 0 rfl d_Scales_value_51 ?_
          refine dk_isub X d_Scales_value_53 ?_
          refine dk_iald X 16 (aC_16 g ad T S) d_Scales_value_54 hF (fun v13 hF => ?_)
          exact dk_sub [1, 2, 3, 4] rfl (kb_Scales_value_55 (n := n) X hR hk4 hx1 hbx1 hF)
        · refine dk_iload (i := 4) X 0 rfl d_Scales_value_41 ?_
          refine dk_goto (tgt := 55) X (by decide) d_Scales_value_43 ?_
          exact dk_sub [1, 2, 3, 4] rfl (kb_Scales_value_55 (n := n) X hR hk4 hx1 hbx1 hF)
def B_Scales_value_4 (n T : Nat)  : Nat → Nat → Nat → Int32 → Int32 → dk_S → Option (Int32 × dk_S)
  | 0 => fun _ _ _ _ _ => none
  | q + 1 => fun tx1 bx1 x2 x3 S => B_Scales_value_4b n T (fun tx1 bx1 x2 x3 S => B_Scales_value_4 n T  q tx1 bx1 x2 x3 S) tx1 bx1 x2 x3 S
theorem kb_Scales_value_4 {p : Program} {l : Launch} {e : Env} {s : State} {m : MethodId} {args : Array Value} {below : List Frame} {meth : Method} {c : Code} {g : dk_G} {A : Nat → Prop} {Q : State → Prop} {ad : Nat → Nat} {T : Nat} {n : Nat} {res : (Int32 × dk_S)} (X : dk_X p s m args meth c b_Scales_value 5 R_Scales (some .int) g A) (hR : dk_Ri p l e rm_Scales_value s m args below meth c g A Q 5 b_Scales_value (some .int) (wC g ad T) res)  : ∀ (q : Nat) (tx1 : Nat) (bx1 : Nat) (x2 : Int32) (x3 : Int32) (hx1 : tx1 < T) (hbx1 : bx1 < 2) (S : dk_S), B_Scales_value_4 n T  q tx1 bx1 x2 x3 S = some res → dk_J p l e rm_Scales_value s m args below meth c g A Q 5 0 0 4 [(0, .ref (ad 15)), (1, .ref (ad (44 + 3 * tx1 + bx1))), (2, .int x2), (3, .int x3)] [] (wC g ad T S) := by
  intro q
  induction q with
  | zero => intro tx1 bx1 x2 x3 hx1 hbx1 S hF; cases hF
  | succ q ih => intro tx1 bx1 x2 x3 hx1 hbx1 S hF; exact kb_Scales_value_4b (n := n) X hR ih hx1 hbx1 hF
def B_Scales_value_0 (n T : Nat)  (tx1 : Nat) (bx1 : Nat) (S : dk_S) : Option (Int32 × dk_S) :=
  B_Scales_value_4 n T  n tx1 bx1 (0 : Int32) (0 : Int32) S
set_option maxRecDepth 20000 in
theorem kb_Scales_value_0 {p : Program} {l : Launch} {e : Env} {s : State} {m : MethodId} {args : Array Value} {below : List Frame} {meth : Method} {c : Code} {g : dk_G} {A : Nat → Prop} {Q : State → Prop} {ad : Nat → Nat} {T : Nat} {n : Nat} {res : (Int32 × dk_S)} (X : dk_X p s m args meth c b_Scales_value 5 R_Scales (some .int) g A) (hR : dk_Ri p l e rm_Scales_value s m args below meth c g A Q 5 b_Scales_value (some .int) (wC g ad T) res)  {tx1 : Nat} {bx1 : Nat} {S : dk_S} (hx1 : tx1 < T) (hbx1 : bx1 < 2) (hF : B_Scales_value_0 n T  tx1 bx1 S = some res) : dk_J p l e rm_Scales_value s m args below meth c g A Q 5 0 0 0 [(0, .ref (ad 15)), (1, .ref (ad (44 + 3 * tx1 + bx1)))] [] (wC g ad T S) := by
  unfold B_Scales_value_0 at hF
  refine dk_iconst (v := 0) X (by decide) d_Scales_value_0 ?_
  refine dk_istore_n (k := 2) (i := 2) (lv' := [(2, .int (0 : Int32)), (0, .ref (ad 15)), (1, .ref (ad (44 + 3 * tx1 + bx1)))]) X rfl (by decide) rfl d_Scales_value_1 ?_
  refine dk_iconst (v := 0) X (by decide) d_Scales_value_2 ?_
  refine dk_istore_n (k := 3) (i := 3) (lv' := [(3, .int (0 : Int32)), (2, .int (0 : Int32)), (0, .ref (ad 15)), (1, .ref (ad (44 + 3 * tx1 + bx1)))]) X rfl (by decide) rfl d_Scales_value_3 ?_
  exact dk_sub [2, 3, 1, 0] rfl (kb_Scales_value_4 (n := n) X hR  n tx1 bx1 (0 : Int32) (0 : Int32) hx1 hbx1 S hF)
def F_Scales_value (n T : Nat) (tx1 : Nat) (bx1 : Nat) (S : dk_S) : Option (Int32 × dk_S) := B_Scales_value_0 n T tx1 bx1 S
theorem c_Scales_value (l : Launch) (g : dk_G) (ad : Nat → Nat) (T n : Nat) (tx1 : Nat) (bx1 : Nat) (hx1 : tx1 < T) (hbx1 : bx1 < 2) (S : dk_S) : dk_Mi l g y_Scales_value b_Scales_value 5 rm_Scales_value (some .int) [.ref (ad 15), .ref (ad (44 + 3 * tx1 + bx1))] (wC g ad T) S (F_Scales_value n T tx1 bx1 S) := dk_enteri (by decide) (Nat.le_of_ble_eq_true rfl) (fun p e s m args below meth c A Q res hF X hR => (kb_Scales_value_0 (n := n) X hR hx1 hbx1 hF))
end
section
abbrev b_Scene_mayFollow : ByteArray := prog_7_method_22_code
def y_Scene_mayFollow : MethodName := ⟨R_Scene, "mayFollow", "(III)Z"⟩
theorem d_Scene_mayFollow_0 : decode b_Scene_mayFollow 0 = .ok (.aload_n 0, 1) := by decide +kernel
theorem d_Scene_mayFollow_1 : decode b_Scene_mayFollow 1 = .ok (.getfield 46, 3) := by decide +kernel
theorem d_Scene_mayFollow_4 : decode b_Scene_mayFollow 4 = .ok (.iload_n 2, 1) := by decide +kernel
theorem d_Scene_mayFollow_5 : decode b_Scene_mayFollow 5 = .ok (.invokevirtual 139, 3) := by decide +kernel
theorem d_Scene_mayFollow_8 : decode b_Scene_mayFollow 8 = .ok (.istore 4, 2) := by decide +kernel
theorem d_Scene_mayFollow_10 : decode b_Scene_mayFollow 10 = .ok (.aload_n 0, 1) := by decide +kernel
theorem d_Scene_mayFollow_11 : decode b_Scene_mayFollow 11 = .ok (.getfield 54, 3) := by decide +kernel
theorem d_Scene_mayFollow_14 : decode b_Scene_mayFollow 14 = .ok (.iconst (-1), 1) := by decide +kernel
theorem d_Scene_mayFollow_15 : decode b_Scene_mayFollow 15 = .ok (.iconst (-1), 1) := by decide +kernel
theorem d_Scene_mayFollow_16 : decode b_Scene_mayFollow 16 = .ok (.invokevirtual 163, 3) := by decide +kernel
theorem d_Scene_mayFollow_19 : decode b_Scene_mayFollow 19 = .ok (.aload_n 0, 1) := by decide +kernel
theorem d_Scene_mayFollow_20 : decode b_Scene_mayFollow 20 = .ok (.getfield 54, 3) := by decide +kernel
theorem d_Scene_mayFollow_23 : decode b_Scene_mayFollow 23 = .ok (.bipush (-2), 2) := by decide +kernel
theorem d_Scene_mayFollow_25 : decode b_Scene_mayFollow 25 = .ok (.iconst 0, 1) := by decide +kernel
theorem d_Scene_mayFollow_26 : decode b_Scene_mayFollow 26 = .ok (.invokevirtual 163, 3) := by decide +kernel
theorem d_Scene_mayFollow_29 : decode b_Scene_mayFollow 29 = .ok (.aload_n 0, 1) := by decide +kernel
theorem d_Scene_mayFollow_30 : decode b_Scene_mayFollow 30 = .ok (.getfield 54, 3) := by decide +kernel
theorem d_Scene_mayFollow_33 : decode b_Scene_mayFollow 33 = .ok (.bipush (-3), 2) := by decide +kernel
theorem d_Scene_mayFollow_35 : decode b_Scene_mayFollow 35 = .ok (.iload 4, 2) := by decide +kernel
theorem d_Scene_mayFollow_37 : decode b_Scene_mayFollow 37 = .ok (.iconst 1, 1) := by decide +kernel
theorem d_Scene_mayFollow_38 : decode b_Scene_mayFollow 38 = .ok (.iadd, 1) := by decide +kernel
theorem d_Scene_mayFollow_39 : decode b_Scene_mayFollow 39 = .ok (.invokevirtual 163, 3) := by decide +kernel
theorem d_Scene_mayFollow_42 : decode b_Scene_mayFollow 42 = .ok (.aload_n 0, 1) := by decide +kernel
theorem d_Scene_mayFollow_43 : decode b_Scene_mayFollow 43 = .ok (.getfield 54, 3) := by decide +kernel
theorem d_Scene_mayFollow_46 : decode b_Scene_mayFollow 46 = .ok (.bipush (-4), 2) := by decide +kernel
theorem d_Scene_mayFollow_48 : decode b_Scene_mayFollow 48 = .ok (.iload 4, 2) := by decide +kernel
theorem d_Scene_mayFollow_50 : decode b_Scene_mayFollow 50 = .ok (.iload_n 1, 1) := by decide +kernel
theorem d_Scene_mayFollow_51 : decode b_Scene_mayFollow 51 = .ok (.if_icmp .ne 7, 3) := by decide +kernel
theorem d_Scene_mayFollow_54 : decode b_Scene_mayFollow 54 = .ok (.iconst 1, 1) := by decide +kernel
theorem d_Scene_mayFollow_55 : decode b_Scene_mayFollow 55 = .ok (.goto 4, 3) := by decide +kernel
theorem d_Scene_mayFollow_58 : decode b_Scene_mayFollow 58 = .ok (.iconst 0, 1) := by decide +kernel
theorem d_Scene_mayFollow_59 : decode b_Scene_mayFollow 59 = .ok (.invokevirtual 163, 3) := by decide +kernel
theorem d_Scene_mayFollow_62 : decode b_Scene_mayFollow 62 = .ok (.aload_n 0, 1) := by decide +kernel
theorem d_Scene_mayFollow_63 : decode b_Scene_mayFollow 63 = .ok (.getfield 54, 3) := by decide +kernel
theorem d_Scene_mayFollow_66 : decode b_Scene_mayFollow 66 = .ok (.bipush (-5), 2) := by decide +kernel
theorem d_Scene_mayFollow_68 : decode b_Scene_mayFollow 68 = .ok (.aload_n 0, 1) := by decide +kernel
theorem d_Scene_mayFollow_69 : decode b_Scene_mayFollow 69 = .ok (.getfield 46, 3) := by decide +kernel
theorem d_Scene_mayFollow_72 : decode b_Scene_mayFollow 72 = .ok (.iload_n 3, 1) := by decide +kernel
theorem d_Scene_mayFollow_73 : decode b_Scene_mayFollow 73 = .ok (.invokevirtual 86, 3) := by decide +kernel
theorem d_Scene_mayFollow_76 : decode b_Scene_mayFollow 76 = .ok (.ifCond .eq 7, 3) := by decide +kernel
theorem d_Scene_mayFollow_79 : decode b_Scene_mayFollow 79 = .ok (.iconst 1, 1) := by decide +kernel
theorem d_Scene_mayFollow_80 : decode b_Scene_mayFollow 80 = .ok (.goto 4, 3) := by decide +kernel
theorem d_Scene_mayFollow_83 : decode b_Scene_mayFollow 83 = .ok (.iconst 0, 1) := by decide +kernel
theorem d_Scene_mayFollow_84 : decode b_Scene_mayFollow 84 = .ok (.invokevirtual 163, 3) := by decide +kernel
theorem d_Scene_mayFollow_87 : decode b_Scene_mayFollow 87 = .ok (.aload_n 0, 1) := by decide +kernel
theorem d_Scene_mayFollow_88 : decode b_Scene_mayFollow 88 = .ok (.getfield 54, 3) := by decide +kernel
theorem d_Scene_mayFollow_91 : decode b_Scene_mayFollow 91 = .ok (.bipush (-6), 2) := by decide +kernel
theorem d_Scene_mayFollow_93 : decode b_Scene_mayFollow 93 = .ok (.iload_n 1, 1) := by decide +kernel
theorem d_Scene_mayFollow_94 : decode b_Scene_mayFollow 94 = .ok (.invokevirtual 163, 3) := by decide +kernel
theorem d_Scene_mayFollow_97 : decode b_Scene_mayFollow 97 = .ok (.aload_n 0, 1) := by decide +kernel
theorem d_Scene_mayFollow_98 : decode b_Scene_mayFollow 98 = .ok (.getfield 54, 3) := by decide +kernel
theorem d_Scene_mayFollow_101 : decode b_Scene_mayFollow 101 = .ok (.aload_n 0, 1) := by decide +kernel
theorem d_Scene_mayFollow_102 : decode b_Scene_mayFollow 102 = .ok (.getfield 54, 3) := by decide +kernel
theorem d_Scene_mayFollow_105 : decode b_Scene_mayFollow 105 = .ok (.getfield 168, 3) := by decide +kernel
theorem d_Scene_mayFollow_108 : decode b_Scene_mayFollow 108 = .ok (.getfield 172, 3) := by decide +kernel
theorem d_Scene_mayFollow_111 : decode b_Scene_mayFollow 111 = .ok (.invokevirtual 177, 3) := by decide +kernel
theorem d_Scene_mayFollow_114 : decode b_Scene_mayFollow 114 = .ok (.ifCond .eq 7, 3) := by decide +kernel
theorem d_Scene_mayFollow_117 : decode b_Scene_mayFollow 117 = .ok (.iconst 1, 1) := by decide +kernel
theorem d_Scene_mayFollow_118 : decode b_Scene_mayFollow 118 = .ok (.goto 4, 3) := by decide +kernel
theorem d_Scene_mayFollow_121 : decode b_Scene_mayFollow 121 = .ok (.iconst 0, 1) := by decide +kernel
theorem d_Scene_mayFollow_122 : decode b_Scene_mayFollow 122 = .ok (.ireturn, 1) := by decide +kernel
theorem v_Scene_mayFollow : dk_Yv y_Scene_mayFollow b_Scene_mayFollow 5 (some .boolean) 3 := ⟨dk_in (List.mem_of_getElem? (i := 652) (by decide +kernel)) rfl, dk_in (List.mem_of_getElem? (i := 653) (by decide +kernel)) rfl, dk_in (List.mem_of_getElem? (i := 72) (by decide +kernel)) rfl, dk_in (List.mem_of_getElem? (i := 654) (by decide +kernel)) rfl, by decide +kernel, by decide +kernel, by decide +kernel⟩
abbrev rm_Scene_mayFollow : Room := { frames := 2, cells := 0, slots := 0, locals := 46 }
theorem f_Scene_168 : Cond.fieldLink R_Scene 168 (T_Scales 2).1 (T_Scales 2).2.1 (T_Scales 2).2.2.1 ∈ dk_tb := dk_in (List.mem_of_getElem? (i := 235) (by decide +kernel)) rfl
theorem f_Scene_172 : Cond.fieldLink R_Scene 172 (T_Text 1).1 (T_Text 1).2.1 (T_Text 1).2.2.1 ∈ dk_tb := dk_in (List.mem_of_getElem? (i := 220) (by decide +kernel)) rfl
theorem f_Scene_46 : Cond.fieldLink R_Scene 46 (T_Scene 0).1 (T_Scene 0).2.1 (T_Scene 0).2.2.1 ∈ dk_tb := dk_in (List.mem_of_getElem? (i := 250) (by decide +kernel)) rfl
theorem f_Scene_54 : Cond.fieldLink R_Scene 54 (T_Scene 2).1 (T_Scene 2).2.1 (T_Scene 2).2.2.1 ∈ dk_tb := dk_in (List.mem_of_getElem? (i := 252) (by decide +kernel)) rfl
theorem m_Scene_139 : Cond.methodLink R_Scene 139 y_Land_ownerOf ∈ dk_tb := dk_in (List.mem_of_getElem? (i := 655) (by decide +kernel)) rfl
theorem m_Scene_163 : Cond.methodLink R_Scene 163 y_Scales_setName ∈ dk_tb := dk_in (List.mem_of_getElem? (i := 659) (by decide +kernel)) rfl
theorem m_Scene_177 : Cond.methodLink R_Scene 177 y_Scales_value ∈ dk_tb := dk_in (List.mem_of_getElem? (i := 667) (by decide +kernel)) rfl
theorem m_Scene_86 : Cond.methodLink R_Scene 86 y_Land_isTame ∈ dk_tb := dk_in (List.mem_of_getElem? (i := 663) (by decide +kernel)) rfl
def B_Scene_mayFollow_84 (n T : Nat)  (x1 : Int32) (u1 : Int32) (u2 : Int32) (S : dk_S) : Option (Int32 × dk_S) :=
  dk_cv (F_Scales_setName n T u1 u2 S) fun S1 => dk_cv (F_Scales_setName n T (-6 : Int32) x1 S1) fun S3 => dk_t T S3 fun t5 => dk_c (F_Scales_value n T t5 1 S3) fun r7 S6 => if r7 = 0 then (dk_b (0 : Int32) (some ((0 : Int32), S6))) else (dk_b (1 : Int32) (some ((1 : Int32), S6)))
set_option maxRecDepth 20000 in
theorem kb_Scene_mayFollow_84 {p : Program} {l : Launch} {e : Env} {s : State} {m : MethodId} {args : Array Value} {below : List Frame} {meth : Method} {c : Code} {g : dk_G} {A : Nat → Prop} {Q : State → Prop} {ad : Nat → Nat} {T : Nat} {n : Nat} {res : (Int32 × dk_S)} (X : dk_X p s m args meth c b_Scene_mayFollow 5 R_Scene (some .boolean) g A) (hR : dk_Ri p l e rm_Scene_mayFollow s m args below meth c g A Q 5 b_Scene_mayFollow (some .boolean) (wC g ad T) res)  {x1 : Int32} {u1 : Int32} {u2 : Int32} {S : dk_S}  (hF : B_Scene_mayFollow_84 n T  x1 u1 u2 S = some res) : dk_J p l e rm_Scene_mayFollow s m args below meth c g A Q 5 0 0 84 [(0, .ref (ad 18)), (1, .int x1)] [.int u2, .int u1, .ref (ad 15)] (wC g ad T S) := by
  unfold B_Scene_mayFollow_84 at hF
  refine dk_callVv X v_Scales_setName [.int u1, .int u2] (c_Scales_setName l g ad T n u1 u2 S) 15 (oC_Scales g ad T S) rfl rfl m_Scene_163 rfl rfl ⟨rfl, rfl, Nat.le_of_ble_eq_true rfl, Nat.le_of_ble_eq_true rfl, Nat.le_refl _, Nat.le_refl _⟩ (Nat.le_of_ble_eq_true rfl) d_Scene_mayFollow_84 hF (fun S1 hF => ?_)
  refine dk_aload_n (k := 0) (i := 0) X 0 rfl rfl d_Scene_mayFollow_87 ?_
  refine dk_get X q_Scene 18 2 (by decide) (oC_Scene g ad T S1) rfl f_Scene_54 d_Scene_mayFollow_88 ?_
  refine dk_bipush (v := -6) X (by decide) d_Scene_mayFollow_91 ?_
  refine dk_iload_n (k := 1) (i := 1) X 1 rfl rfl d_Scene_mayFollow_93 ?_
  refine dk_callVv X v_Scales_setName [.int (-6 : Int32), .int x1] (c_Scales_setName l g ad T n (-6 : Int32) x1 S1) 15 (oC_Scales g ad T S1) rfl rfl m_Scene_163 rfl rfl ⟨rfl, rfl, Nat.le_of_ble_eq_true rfl, Nat.le_of_ble_eq_true rfl, Nat.le_refl _, Nat.le_refl _⟩ (Nat.le_of_ble_eq_true rfl) d_Scene_mayFollow_94 hF (fun S3 hF => ?_)
  refine dk_aload_n (k := 0) (i := 0) X 0 rfl rfl d_Scene_mayFollow_97 ?_
  refine dk_get X q_Scene 18 2 (by decide) (oC_Scene g ad T S3) rfl f_Scene_54 d_Scene_mayFollow_98 ?_
  refine dk_aload_n (k := 0) (i := 0) X 0 rfl rfl d_Scene_mayFollow_101 ?_
  refine dk_get X q_Scene 18 2 (by decide) (oC_Scene g ad T S3) rfl f_Scene_54 d_Scene_mayFollow_102 ?_
  obtain ⟨t5, ht5, et5, hF⟩ := dk_t_out hF
  refine dk_get X q_Scales 15 2 (by decide) (oC_Scales g ad T S3) (v := .ref (ad (43 + 3 * t5))) (by rw [et5]; rfl) f_Scene_168 d_Scene_mayFollow_105 ?_
  refine dk_get X q_Text (43 + 3 * t5 + 0) 1 (by decide) (oC_text g ad T S3 t5 ht5) rfl f_Scene_172 d_Scene_mayFollow_108 ?_
  refine dk_callVi X v_Scales_value [.ref (ad (44 + 3 * t5 + 1))] (c_Scales_value l g ad T n t5 1 ht5 (by decide) S3) 15 (oC_Scales g ad T S3) rfl rfl m_Scene_177 rfl rfl ⟨rfl, rfl, Nat.le_of_ble_eq_true rfl, Nat.le_of_ble_eq_true rfl, Nat.le_refl _, Nat.le_refl _⟩ (Nat.le_of_ble_eq_true rfl) d_Scene_mayFollow_111 hF (fun r7 S6 hF => ?_)
  refine dk_if_eq (tgt := 121) X (by decide) d_Scene_mayFollow_114 hF (fun hF => ?_) (fun hF => ?_)
  · refine dk_iconst (v := 0) X (by decide) d_Scene_mayFollow_121 ?_
    exact dk_retz hR hF d_Scene_mayFollow_122
  · refine dk_iconst (v := 1) X (by decide) d_Scene_mayFollow_117 ?_
    refine dk_goto (tgt := 122) X (by decide) d_Scene_mayFollow_118 ?_
    exact dk_retz hR hF d_Scene_mayFollow_122
def B_Scene_mayFollow_59 (n T : Nat)  (x1 : Int32) (x3 : Int32) (u1 : Int32) (u2 : Int32) (S : dk_S) : Option (Int32 × dk_S) :=
  dk_cv (F_Scales_setName n T u1 u2 S) fun S8 => dk_c (F_Land_isTame n T x3 S8) fun r11 S10 => if r11 = 0 then (B_Scene_mayFollow_84 n T  x1 (-5 : Int32) (0 : Int32) S10) else (B_Scene_mayFollow_84 n T  x1 (-5 : Int32) (1 : Int32) S10)
set_option maxRecDepth 20000 in
theorem kb_Scene_mayFollow_59 {p : Program} {l : Launch} {e : Env} {s : State} {m : MethodId} {args : Array Value} {below : List Frame} {meth : Method} {c : Code} {g : dk_G} {A : Nat → Prop} {Q : State → Prop} {ad : Nat → Nat} {T : Nat} {n : Nat} {res : (Int32 × dk_S)} (X : dk_X p s m args meth c b_Scene_mayFollow 5 R_Scene (some .boolean) g A) (hR : dk_Ri p l e rm_Scene_mayFollow s m args below meth c g A Q 5 b_Scene_mayFollow (some .boolean) (wC g ad T) res)  {x1 : Int32} {x3 : Int32} {u1 : Int32} {u2 : Int32} {S : dk_S}  (hF : B_Scene_mayFollow_59 n T  x1 x3 u1 u2 S = some res) : dk_J p l e rm_Scene_mayFollow s m args below meth c g A Q 5 0 0 59 [(0, .ref (ad 18)), (1, .int x1), (3, .int x3)] [.int u2, .int u1, .ref (ad 15)] (wC g ad T S) := by
  unfold B_Scene_mayFollow_59 at hF
  refine dk_callVv X v_Scales_setName [.int u1, .int u2] (c_Scales_setName l g ad T n u1 u2 S) 15 (oC_Scales g ad T S) rfl rfl m_Scene_163 rfl rfl ⟨rfl, rfl, Nat.le_of_ble_eq_true rfl, Nat.le_of_ble_eq_true rfl, Nat.le_refl _, Nat.le_refl _⟩ (Nat.le_of_ble_eq_true rfl) d_Scene_mayFollow_59 hF (fun S8 hF => ?_)
  refine dk_aload_n (k := 0) (i := 0) X 0 rfl rfl d_Scene_mayFollow_62 ?_
  refine dk_get X q_Scene 18 2 (by decide) (oC_Scene g ad T S8) rfl f_Scene_54 d_Scene_mayFollow_63 ?_
  refine dk_bipush (v := -5) X (by decide) d_Scene_mayFollow_66 ?_
  refine dk_aload_n (k := 0) (i := 0) X 0 rfl rfl d_Scene_mayFollow_68 ?_
  refine dk_get X q_Scene 18 0 (by decide) (oC_Scene g ad T S8) rfl f_Scene_46 d_Scene_mayFollow_69 ?_
  refine dk_iload_n (k := 3) (i := 3) X 2 rfl rfl d_Scene_mayFollow_72 ?_
  refine dk_callVi X v_Land_isTame [.int x3] (c_Land_isTame l g ad T n x3 S8) 1 (oC_Land g ad T S8) rfl rfl m_Scene_86 rfl rfl ⟨rfl, rfl, Nat.le_of_ble_eq_true rfl, Nat.le_of_ble_eq_true rfl, Nat.le_refl _, Nat.le_refl _⟩ (Nat.le_of_ble_eq_true rfl) d_Scene_mayFollow_73 hF (fun r11 S10 hF => ?_)
  refine dk_if_eq (tgt := 83) X (by decide) d_Scene_mayFollow_76 hF (fun hF => ?_) (fun hF => ?_)
  · refine dk_iconst (v := 0) X (by decide) d_Scene_mayFollow_83 ?_
    exact dk_sub [0, 1] rfl (kb_Scene_mayFollow_84 (n := n) X hR   hF)
  · refine dk_iconst (v := 1) X (by decide) d_Scene_mayFollow_79 ?_
    refine dk_goto (tgt := 84) X (by decide) d_Scene_mayFollow_80 ?_
    exact dk_sub [0, 1] rfl (kb_Scene_mayFollow_84 (n := n) X hR   hF)
def B_Scene_mayFollow_0 (n T : Nat)  (x1 : Int32) (x2 : Int32) (x3 : Int32) (S : dk_S) : Option (Int32 × dk_S) :=
  dk_c (F_Land_ownerOf n T x2 S) fun r13 S12 => dk_cv (F_Scales_setName n T (-1 : Int32) (-1 : Int32) S12) fun S14 => dk_cv (F_Scales_setName n T (-2 : Int32) (0 : Int32) S14) fun S16 => dk_cv (F_Scales_setName n T (-3 : Int32) (r13 + (1 : Int32)) S16) fun S18 => if ¬ r13 = x1 then (B_Scene_mayFollow_59 n T  x1 x3 (-4 : Int32) (0 : Int32) S18) else (B_Scene_mayFollow_59 n T  x1 x3 (-4 : Int32) (1 : Int32) S18)
set_option maxRecDepth 20000 in
theorem kb_Scene_mayFollow_0 {p : Program} {l : Launch} {e : Env} {s : State} {m : MethodId} {args : Array Value} {below : List Frame} {meth : Method} {c : Code} {g : dk_G} {A : Nat → Prop} {Q : State → Prop} {ad : Nat → Nat} {T : Nat} {n : Nat} {res : (Int32 × dk_S)} (X : dk_X p s m args meth c b_Scene_mayFollow 5 R_Scene (some .boolean) g A) (hR : dk_Ri p l e rm_Scene_mayFollow s m args below meth c g A Q 5 b_Scene_mayFollow (some .boolean) (wC g ad T) res)  {x1 : Int32} {x2 : Int32} {x3 : Int32} {S : dk_S}  (hF : B_Scene_mayFollow_0 n T  x1 x2 x3 S = some res) : dk_J p l e rm_Scene_mayFollow s m args below meth c g A Q 5 0 0 0 [(0, .ref (ad 18)), (1, .int x1), (2, .int x2), (3, .int x3)] [] (wC g ad T S) := by
  unfold B_Scene_mayFollow_0 at hF
  refine dk_aload_n (k := 0) (i := 0) X 0 rfl rfl d_Scene_mayFollow_0 ?_
  refine dk_get X q_Scene 18 0 (by decide) (oC_Scene g ad T S) rfl f_Scene_46 d_Scene_mayFollow_1 ?_
  refine dk_iload_n (k := 2) (i := 2) X 2 rfl rfl d_Scene_mayFollow_4 ?_
  refine dk_callVi X v_Land_ownerOf [.int x2] (c_Land_ownerOf l g ad T n x2 S) 1 (oC_Land g ad T S) rfl rfl m_Scene_139 rfl rfl ⟨rfl, rfl, Nat.le_of_ble_eq_true rfl, Nat.le_of_ble_eq_true rfl, Nat.le_refl _, Nat.le_refl _⟩ (Nat.le_of_ble_eq_true rfl) d_Scene_mayFollow_5 hF (fun r13 S12 hF => ?_)
  refine dk_istore (i := 4) (lv' := [(4, .int r13), (0, .ref (ad 18)), (1, .int x1), (2, .int x2), (3, .int x3)]) X (by decide) rfl d_Scene_mayFollow_8 ?_
  refine dk_aload_n (k := 0) (i := 0) X 1 rfl rfl d_Scene_mayFollow_10 ?_
  refine dk_get X q_Scene 18 2 (by decide) (oC_Scene g ad T S12) rfl f_Scene_54 d_Scene_mayFollow_11 ?_
  refine dk_iconst (v := -1) X (by decide) d_Scene_mayFollow_14 ?_
  refine dk_iconst (v := -1) X (by decide) d_Scene_mayFollow_15 ?_
  refine dk_callVv X v_Scales_setName [.int (-1 : Int32), .int (-1 : Int32)] (c_Scales_setName l g ad T n (-1 : Int32) (-1 : Int32) S12) 15 (oC_Scales g ad T S12) rfl rfl m_Scene_163 rfl rfl ⟨rfl, rfl, Nat.le_of_ble_eq_true rfl, Nat.le_of_ble_eq_true rfl, Nat.le_refl _, Nat.le_refl _⟩ (Nat.le_of_ble_eq_true rfl) d_Scene_mayFollow_16 hF (fun S14 hF => ?_)
  refine dk_aload_n (k := 0) (i := 0) X 1 rfl rfl d_Scene_mayFollow_19 ?_
  refine dk_get X q_Scene 18 2 (by decide) (oC_Scene g ad T S14) rfl f_Scene_54 d_Scene_mayFollow_20 ?_
  refine dk_bipush (v := -2) X (by decide) d_Scene_mayFollow_23 ?_
  refine dk_iconst (v := 0) X (by decide) d_Scene_mayFollow_25 ?_
  refine dk_callVv X v_Scales_setName [.int (-2 : Int32), .int (0 : Int32)] (c_Scales_setName l g ad T n (-2 : Int32) (0 : Int32) S14) 15 (oC_Scales g ad T S14) rfl rfl m_Scene_163 rfl rfl ⟨rfl, rfl, Nat.le_of_ble_eq_true rfl, Nat.le_of_ble_eq_true rfl, Nat.le_refl _, Nat.le_refl _⟩ (Nat.le_of_ble_eq_true rfl) d_Scene_mayFollow_26 hF (fun S16 hF => ?_)
  refine dk_aload_n (k := 0) (i := 0) X 1 rfl rfl d_Scene_mayFollow_29 ?_
  refine dk_get X q_Scene 18 2 (by decide) (oC_Scene g ad T S16) rfl f_Scene_54 d_Scene_mayFollow_30 ?_
  refine dk_bipush (v := -3) X (by decide) d_Scene_mayFollow_33 ?_
  refine dk_iload (i := 4) X 0 rfl d_Scene_mayFollow_35 ?_
  refine dk_iconst (v := 1) X (by decide) d_Scene_mayFollow_37 ?_
  refine dk_iadd X d_Scene_mayFollow_38 ?_
  refine dk_callVv X v_Scales_setName [.int (-3 : Int32), .int (r13 + (1 : Int32))] (c_Scales_setName l g ad T n (-3 : Int32) (r13 + (1 : Int32)) S16) 15 (oC_Scales g ad T S16) rfl rfl m_Scene_163 rfl rfl ⟨rfl, rfl, Nat.le_of_ble_eq_true rfl, Nat.le_of_ble_eq_true rfl, Nat.le_refl _, Nat.le_refl _⟩ (Nat.le_of_ble_eq_true rfl) d_Scene_mayFollow_39 hF (fun S18 hF => ?_)
  refine dk_aload_n (k := 0) (i := 0) X 1 rfl rfl d_Scene_mayFollow_42 ?_
  refine dk_get X q_Scene 18 2 (by decide) (oC_Scene g ad T S18) rfl f_Scene_54 d_Scene_mayFollow_43 ?_
  refine dk_bipush (v := -4) X (by decide) d_Scene_mayFollow_46 ?_
  refine dk_iload (i := 4) X 0 rfl d_Scene_mayFollow_48 ?_
  refine dk_iload_n (k := 1) (i := 1) X 2 rfl rfl d_Scene_mayFollow_50 ?_
  refine dk_icmp_ne (tgt := 58) X (by decide) d_Scene_mayFollow_51 hF (fun hF => ?_) (fun hF => ?_)
  · refine dk_iconst (v := 0) X (by decide) d_Scene_mayFollow_58 ?_
    exact dk_sub [1, 2, 4] rfl (kb_Scene_mayFollow_59 (n := n) X hR   hF)
  · refine dk_iconst (v := 1) X (by decide) d_Scene_mayFollow_54 ?_
    refine dk_goto (tgt := 59) X (by decide) d_Scene_mayFollow_55 ?_
    exact dk_sub [1, 2, 4] rfl (kb_Scene_mayFollow_59 (n := n) X hR   hF)
def F_Scene_mayFollow (n T : Nat) (x1 : Int32) (x2 : Int32) (x3 : Int32) (S : dk_S) : Option (Int32 × dk_S) := B_Scene_mayFollow_0 n T x1 x2 x3 S
theorem c_Scene_mayFollow (l : Launch) (g : dk_G) (ad : Nat → Nat) (T n : Nat) (x1 : Int32) (x2 : Int32) (x3 : Int32)  (S : dk_S) : dk_Mi l g y_Scene_mayFollow b_Scene_mayFollow 5 rm_Scene_mayFollow (some .boolean) [.ref (ad 18), .int x1, .int x2, .int x3] (wC g ad T) S (F_Scene_mayFollow n T x1 x2 x3 S) := dk_enteri (by decide) (Nat.le_of_ble_eq_true rfl) (fun p e s m args below meth c A Q res hF X hR => (kb_Scene_mayFollow_0 (n := n) X hR  hF))
abbrev b_Scene_make : ByteArray := prog_7_method_9_code
def y_Scene_make : MethodName := ⟨R_Scene, "make", "(IIIII)V"⟩
theorem d_Scene_make_0 : decode b_Scene_make 0 = .ok (.aload_n 0, 1) := by decide +kernel
theorem d_Scene_make_1 : decode b_Scene_make 1 = .ok (.getfield 58, 3) := by decide +kernel
theorem d_Scene_make_4 : decode b_Scene_make 4 = .ok (.bipush 44, 2) := by decide +kernel
theorem d_Scene_make_6 : decode b_Scene_make 6 = .ok (.if_icmp .lt 4, 3) := by decide +kernel
theorem d_Scene_make_9 : decode b_Scene_make 9 = .ok (.return_, 1) := by decide +kernel
theorem d_Scene_make_10 : decode b_Scene_make 10 = .ok (.aload_n 0, 1) := by decide +kernel
theorem d_Scene_make_11 : decode b_Scene_make 11 = .ok (.getfield 9, 3) := by decide +kernel
theorem d_Scene_make_14 : decode b_Scene_make 14 = .ok (.aload_n 0, 1) := by decide +kernel
theorem d_Scene_make_15 : decode b_Scene_make 15 = .ok (.getfield 58, 3) := by decide +kernel
theorem d_Scene_make_18 : decode b_Scene_make 18 = .ok (.iload_n 1, 1) := by decide +kernel
theorem d_Scene_make_19 : decode b_Scene_make 19 = .ok (.iastore, 1) := by decide +kernel
theorem d_Scene_make_20 : decode b_Scene_make 20 = .ok (.aload_n 0, 1) := by decide +kernel
theorem d_Scene_make_21 : decode b_Scene_make 21 = .ok (.getfield 15, 3) := by decide +kernel
theorem d_Scene_make_24 : decode b_Scene_make 24 = .ok (.aload_n 0, 1) := by decide +kernel
theorem d_Scene_make_25 : decode b_Scene_make 25 = .ok (.getfield 58, 3) := by decide +kernel
theorem d_Scene_make_28 : decode b_Scene_make 28 = .ok (.iload_n 3, 1) := by decide +kernel
theorem d_Scene_make_29 : decode b_Scene_make 29 = .ok (.iastore, 1) := by decide +kernel
theorem d_Scene_make_30 : decode b_Scene_make 30 = .ok (.aload_n 0, 1) := by decide +kernel
theorem d_Scene_make_31 : decode b_Scene_make 31 = .ok (.getfield 18, 3) := by decide +kernel
theorem d_Scene_make_34 : decode b_Scene_make 34 = .ok (.aload_n 0, 1) := by decide +kernel
theorem d_Scene_make_35 : decode b_Scene_make 35 = .ok (.getfield 58, 3) := by decide +kernel
theorem d_Scene_make_38 : decode b_Scene_make 38 = .ok (.iload_n 2, 1) := by decide +kernel
theorem d_Scene_make_39 : decode b_Scene_make 39 = .ok (.iastore, 1) := by decide +kernel
theorem d_Scene_make_40 : decode b_Scene_make 40 = .ok (.aload_n 0, 1) := by decide +kernel
theorem d_Scene_make_41 : decode b_Scene_make 41 = .ok (.getfield 21, 3) := by decide +kernel
theorem d_Scene_make_44 : decode b_Scene_make 44 = .ok (.aload_n 0, 1) := by decide +kernel
theorem d_Scene_make_45 : decode b_Scene_make 45 = .ok (.getfield 58, 3) := by decide +kernel
theorem d_Scene_make_48 : decode b_Scene_make 48 = .ok (.iload 4, 2) := by decide +kernel
theorem d_Scene_make_50 : decode b_Scene_make 50 = .ok (.iastore, 1) := by decide +kernel
theorem d_Scene_make_51 : decode b_Scene_make 51 = .ok (.aload_n 0, 1) := by decide +kernel
theorem d_Scene_make_52 : decode b_Scene_make 52 = .ok (.getfield 24, 3) := by decide +kernel
theorem d_Scene_make_55 : decode b_Scene_make 55 = .ok (.aload_n 0, 1) := by decide +kernel
theorem d_Scene_make_56 : decode b_Scene_make 56 = .ok (.getfield 58, 3) := by decide +kernel
theorem d_Scene_make_59 : decode b_Scene_make 59 = .ok (.iload 5, 2) := by decide +kernel
theorem d_Scene_make_61 : decode b_Scene_make 61 = .ok (.iastore, 1) := by decide +kernel
theorem d_Scene_make_62 : decode b_Scene_make 62 = .ok (.aload_n 0, 1) := by decide +kernel
theorem d_Scene_make_63 : decode b_Scene_make 63 = .ok (.getfield 27, 3) := by decide +kernel
theorem d_Scene_make_66 : decode b_Scene_make 66 = .ok (.aload_n 0, 1) := by decide +kernel
theorem d_Scene_make_67 : decode b_Scene_make 67 = .ok (.getfield 58, 3) := by decide +kernel
theorem d_Scene_make_70 : decode b_Scene_make 70 = .ok (.aload_n 0, 1) := by decide +kernel
theorem d_Scene_make_71 : decode b_Scene_make 71 = .ok (.getfield 37, 3) := by decide +kernel
theorem d_Scene_make_74 : decode b_Scene_make 74 = .ok (.iload_n 2, 1) := by decide +kernel
theorem d_Scene_make_75 : decode b_Scene_make 75 = .ok (.iaload, 1) := by decide +kernel
theorem d_Scene_make_76 : decode b_Scene_make 76 = .ok (.iastore, 1) := by decide +kernel
theorem d_Scene_make_77 : decode b_Scene_make 77 = .ok (.aload_n 0, 1) := by decide +kernel
theorem d_Scene_make_78 : decode b_Scene_make 78 = .ok (.getfield 30, 3) := by decide +kernel
theorem d_Scene_make_81 : decode b_Scene_make 81 = .ok (.aload_n 0, 1) := by decide +kernel
theorem d_Scene_make_82 : decode b_Scene_make 82 = .ok (.getfield 58, 3) := by decide +kernel
theorem d_Scene_make_85 : decode b_Scene_make 85 = .ok (.iconst (-1), 1) := by decide +kernel
theorem d_Scene_make_86 : decode b_Scene_make 86 = .ok (.iastore, 1) := by decide +kernel
theorem d_Scene_make_87 : decode b_Scene_make 87 = .ok (.aload_n 0, 1) := by decide +kernel
theorem d_Scene_make_88 : decode b_Scene_make 88 = .ok (.getfield 33, 3) := by decide +kernel
theorem d_Scene_make_91 : decode b_Scene_make 91 = .ok (.aload_n 0, 1) := by decide +kernel
theorem d_Scene_make_92 : decode b_Scene_make 92 = .ok (.getfield 58, 3) := by decide +kernel
theorem d_Scene_make_95 : decode b_Scene_make 95 = .ok (.iconst 0, 1) := by decide +kernel
theorem d_Scene_make_96 : decode b_Scene_make 96 = .ok (.bastore, 1) := by decide +kernel
theorem d_Scene_make_97 : decode b_Scene_make 97 = .ok (.aload_n 0, 1) := by decide +kernel
theorem d_Scene_make_98 : decode b_Scene_make 98 = .ok (.dup, 1) := by decide +kernel
theorem d_Scene_make_99 : decode b_Scene_make 99 = .ok (.getfield 58, 3) := by decide +kernel
theorem d_Scene_make_102 : decode b_Scene_make 102 = .ok (.iconst 1, 1) := by decide +kernel
theorem d_Scene_make_103 : decode b_Scene_make 103 = .ok (.iadd, 1) := by decide +kernel
theorem d_Scene_make_104 : decode b_Scene_make 104 = .ok (.putfield 58, 3) := by decide +kernel
theorem d_Scene_make_107 : decode b_Scene_make 107 = .ok (.return_, 1) := by decide +kernel
theorem v_Scene_make : dk_Yv y_Scene_make b_Scene_make 6 (none) 5 := ⟨dk_in (List.mem_of_getElem? (i := 695) (by decide +kernel)) rfl, dk_in (List.mem_of_getElem? (i := 17) (by decide +kernel)) rfl, dk_in (List.mem_of_getElem? (i := 72) (by decide +kernel)) rfl, dk_in (List.mem_of_getElem? (i := 696) (by decide +kernel)) rfl, by decide +kernel, by decide +kernel, by decide +kernel⟩
abbrev rm_Scene_make : Room := { frames := 0, cells := 0, slots := 0, locals := 0 }
theorem f_Scene_15 : Cond.fieldLink R_Scene 15 (T_Scene 4).1 (T_Scene 4).2.1 (T_Scene 4).2.2.1 ∈ dk_tb := dk_in (List.mem_of_getElem? (i := 255) (by decide +kernel)) rfl
theorem f_Scene_18 : Cond.fieldLink R_Scene 18 (T_Scene 5).1 (T_Scene 5).2.1 (T_Scene 5).2.2.1 ∈ dk_tb := dk_in (List.mem_of_getElem? (i := 257) (by decide +kernel)) rfl
theorem f_Scene_21 : Cond.fieldLink R_Scene 21 (T_Scene 6).1 (T_Scene 6).2.1 (T_Scene 6).2.2.1 ∈ dk_tb := dk_in (List.mem_of_getElem? (i := 259) (by decide +kernel)) rfl
theorem f_Scene_24 : Cond.fieldLink R_Scene 24 (T_Scene 7).1 (T_Scene 7).2.1 (T_Scene 7).2.2.1 ∈ dk_tb := dk_in (List.mem_of_getElem? (i := 261) (by decide +kernel)) rfl
theorem f_Scene_27 : Cond.fieldLink R_Scene 27 (T_Scene 8).1 (T_Scene 8).2.1 (T_Scene 8).2.2.1 ∈ dk_tb := dk_in (List.mem_of_getElem? (i := 263) (by decide +kernel)) rfl
theorem f_Scene_30 : Cond.fieldLink R_Scene 30 (T_Scene 9).1 (T_Scene 9).2.1 (T_Scene 9).2.2.1 ∈ dk_tb := dk_in (List.mem_of_getElem? (i := 264) (by decide +kernel)) rfl
theorem f_Scene_33 : Cond.fieldLink R_Scene 33 (T_Scene 10).1 (T_Scene 10).2.1 (T_Scene 10).2.2.1 ∈ dk_tb := dk_in (List.mem_of_getElem? (i := 265) (by decide +kernel)) rfl
theorem f_Scene_37 : Cond.fieldLink R_Scene 37 (T_Scene 13).1 (T_Scene 13).2.1 (T_Scene 13).2.2.1 ∈ dk_tb := dk_in (List.mem_of_getElem? (i := 269) (by decide +kernel)) rfl
theorem f_Scene_58 : Cond.fieldLink R_Scene 58 (T_Scene 11).1 (T_Scene 11).2.1 (T_Scene 11).2.2.1 ∈ dk_tb := dk_in (List.mem_of_getElem? (i := 266) (by decide +kernel)) rfl
theorem f_Scene_9 : Cond.fieldLink R_Scene 9 (T_Scene 3).1 (T_Scene 3).2.1 (T_Scene 3).2.2.1 ∈ dk_tb := dk_in (List.mem_of_getElem? (i := 253) (by decide +kernel)) rfl
def B_Scene_make_0 (n T : Nat)  (x1 : Int32) (x2 : Int32) (x3 : Int32) (x4 : Int32) (x5 : Int32) (S : dk_S) : Option dk_S :=
  if (S 115 0) < (44 : Int32) then (dk_w S 19 44 (S 115 0) x1 fun S1 => dk_w S1 20 44 (S1 115 0) x3 fun S2 => dk_w S2 21 44 (S2 115 0) x2 fun S3 => dk_w S3 22 44 (S3 115 0) x4 fun S4 => dk_w S4 23 44 (S4 115 0) x5 fun S5 => dk_r 6 (S5 27) x2 fun v6 => dk_w S5 24 44 (S5 115 0) v6 fun S7 => dk_w S7 25 44 (S7 115 0) (-1 : Int32) fun S8 => dk_w S8 26 44 (S8 115 0) (vp_nar .boolean (0 : Int32)) fun S9 => dk_p S9 115 ((S9 115 0) + (1 : Int32)) fun S10 => some S10) else (some S)
set_option maxRecDepth 20000 in
theorem kb_Scene_make_0 {p : Program} {l : Launch} {e : Env} {s : State} {m : MethodId} {args : Array Value} {below : List Frame} {meth : Method} {c : Code} {g : dk_G} {A : Nat → Prop} {Q : State → Prop} {ad : Nat → Nat} {T : Nat} {n : Nat} {res : dk_S} (X : dk_X p s m args meth c b_Scene_make 6 R_Scene (none) g A) (hR : dk_Rv p l e rm_Scene_make s m args below meth c g A Q 6 b_Scene_make (none) (wC g ad T) res)  {x1 : Int32} {x2 : Int32} {x3 : Int32} {x4 : Int32} {x5 : Int32} {S : dk_S}  (hF : B_Scene_make_0 n T  x1 x2 x3 x4 x5 S = some res) : dk_J p l e rm_Scene_make s m args below meth c g A Q 6 0 0 0 [(0, .ref (ad 18)), (1, .int x1), (2, .int x2), (3, .int x3), (4, .int x4), (5, .int x5)] [] (wC g ad T S) := by
  unfold B_Scene_make_0 at hF
  refine dk_aload_n (k := 0) (i := 0) X 0 rfl rfl d_Scene_make_0 ?_
  refine dk_get X q_Scene 18 11 (by decide) (oC_Scene g ad T S) rfl f_Scene_58 d_Scene_make_1 ?_
  refine dk_bipush (v := 44) X (by decide) d_Scene_make_4 ?_
  refine dk_icmp_lt (tgt := 10) X (by decide) d_Scene_make_6 hF (fun hF => ?_) (fun hF => ?_)
  · refine dk_aload_n (k := 0) (i := 0) X 0 rfl rfl d_Scene_make_10 ?_
    refine dk_get X q_Scene 18 3 (by decide) (oC_Scene g ad T S) rfl f_Scene_9 d_Scene_make_11 ?_
    refine dk_aload_n (k := 0) (i := 0) X 0 rfl rfl d_Scene_make_14 ?_
    refine dk_get X q_Scene 18 11 (by decide) (oC_Scene g ad T S) rfl f_Scene_58 d_Scene_make_15 ?_
    refine dk_iload_n (k := 1) (i := 1) X 1 rfl rfl d_Scene_make_18 ?_
    refine dk_iast X 19 (aC_19 g ad T S) (sC_19 g ad T S _ _) d_Scene_make_19 hF (fun S1 hF => ?_)
    refine dk_aload_n (k := 0) (i := 0) X 0 rfl rfl d_Scene_make_20 ?_
    refine dk_get X q_Scene 18 4 (by decide) (oC_Scene g ad T S1) rfl f_Scene_15 d_Scene_make_21 ?_
    refine dk_aload_n (k := 0) (i := 0) X 0 rfl rfl d_Scene_make_24 ?_
    refine dk_get X q_Scene 18 11 (by decide) (oC_Scene g ad T S1) rfl f_Scene_58 d_Scene_make_25 ?_
    refine dk_iload_n (k := 3) (i := 3) X 3 rfl rfl d_Scene_make_28 ?_
    refine dk_iast X 20 (aC_20 g ad T S1) (sC_20 g ad T S1 _ _) d_Scene_make_29 hF (fun S2 hF => ?_)
    refine dk_aload_n (k := 0) (i := 0) X 0 rfl rfl d_Scene_make_30 ?_
    refine dk_get X q_Scene 18 5 (by decide) (oC_Scene g ad T S2) rfl f_Scene_18 d_Scene_make_31 ?_
    refine dk_aload_n (k := 0) (i := 0) X 0 rfl rfl d_Scene_make_34 ?_
    refine dk_get X q_Scene 18 11 (by decide) (oC_Scene g ad T S2) rfl f_Scene_58 d_Scene_make_35 ?_
    refine dk_iload_n (k := 2) (i := 2) X 2 rfl rfl d_Scene_make_38 ?_
    refine dk_iast X 21 (aC_21 g ad T S2) (sC_21 g ad T S2 _ _) d_Scene_make_39 hF (fun S3 hF => ?_)
    refine dk_aload_n (k := 0) (i := 0) X 0 rfl rfl d_Scene_make_40 ?_
    refine dk_get X q_Scene 18 6 (by decide) (oC_Scene g ad T S3) rfl f_Scene_21 d_Scene_make_41 ?_
    refine dk_aload_n (k := 0) (i := 0) X 0 rfl rfl d_Scene_make_44 ?_
    refine dk_get X q_Scene 18 11 (by decide) (oC_Scene g ad T S3) rfl f_Scene_58 d_Scene_make_45 ?_
    refine dk_iload (i := 4) X 4 rfl d_Scene_make_48 ?_
    refine dk_iast X 22 (aC_22 g ad T S3) (sC_22 g ad T S3 _ _) d_Scene_make_50 hF (fun S4 hF => ?_)
    refine dk_aload_n (k := 0) (i := 0) X 0 rfl rfl d_Scene_make_51 ?_
    refine dk_get X q_Scene 18 7 (by decide) (oC_Scene g ad T S4) rfl f_Scene_24 d_Scene_make_52 ?_
    refine dk_aload_n (k := 0) (i := 0) X 0 rfl rfl d_Scene_make_55 ?_
    refine dk_get X q_Scene 18 11 (by decide) (oC_Scene g ad T S4) rfl f_Scene_58 d_Scene_make_56 ?_
    refine dk_iload (i := 5) X 5 rfl d_Scene_make_59 ?_
    refine dk_iast X 23 (aC_23 g ad T S4) (sC_23 g ad T S4 _ _) d_Scene_make_61 hF (fun S5 hF => ?_)
    refine dk_aload_n (k := 0) (i := 0) X 0 rfl rfl d_Scene_make_62 ?_
    refine dk_get X q_Scene 18 8 (by decide) (oC_Scene g ad T S5) rfl f_Scene_27 d_Scene_make_63 ?_
    refine dk_aload_n (k := 0) (i := 0) X 0 rfl rfl d_Scene_make_66 ?_
    refine dk_get X q_Scene 18 11 (by decide) (oC_Scene g ad T S5) rfl f_Scene_58 d_Scene_make_67 ?_
    refine dk_aload_n (k := 0) (i := 0) X 0 rfl rfl d_Scene_make_70 ?_
    refine dk_get X q_Scene 18 13 (by decide) (oC_Scene g ad T S5) rfl f_Scene_37 d_Scene_make_71 ?_
    refine dk_iload_n (k := 2) (i := 2) X 2 rfl rfl d_Scene_make_74 ?_
    refine dk_iald X 27 (aC_27 g ad T S5) d_Scene_make_75 hF (fun v6 hF => ?_)
    refine dk_iast X 24 (aC_24 g ad T S5) (sC_24 g ad T S5 _ _) d_Scene_make_76 hF (fun S7 hF => ?_)
    refine dk_aload_n (k := 0) (i := 0) X 0 rfl rfl d_Scene_make_77 ?_
    refine dk_get X q_Scene 18 9 (by decide) (oC_Scene g ad T S7) rfl f_Scene_30 d_Scene_make_78 ?_
    refine dk_aload_n (k := 0) (i := 0) X 0 rfl rfl d_Scene_make_81 ?_
    refine dk_get X q_Scene 18 11 (by decide) (oC_Scene g ad T S7) rfl f_Scene_58 d_Scene_make_82 ?_
    refine dk_iconst (v := -1) X (by decide) d_Scene_make_85 ?_
    refine dk_iast X 25 (aC_25 g ad T S7) (sC_25 g ad T S7 _ _) d_Scene_make_86 hF (fun S8 hF => ?_)
    refine dk_aload_n (k := 0) (i := 0) X 0 rfl rfl d_Scene_make_87 ?_
    refine dk_get X q_Scene 18 10 (by decide) (oC_Scene g ad T S8) rfl f_Scene_33 d_Scene_make_88 ?_
    refine dk_aload_n (k := 0) (i := 0) X 0 rfl rfl d_Scene_make_91 ?_
    refine dk_get X q_Scene 18 11 (by decide) (oC_Scene g ad T S8) rfl f_Scene_58 d_Scene_make_92 ?_
    refine dk_iconst (v := 0) X (by decide) d_Scene_make_95 ?_
    refine dk_zast X 26 (aC_26 g ad T S8) (sC_26 g ad T S8 _ _) d_Scene_make_96 hF (fun S9 hF => ?_)
    refine dk_aload_n (k := 0) (i := 0) X 0 rfl rfl d_Scene_make_97 ?_
    refine dk_dup X rfl d_Scene_make_98 ?_
    refine dk_get X q_Scene 18 11 (by decide) (oC_Scene g ad T S9) rfl f_Scene_58 d_Scene_make_99 ?_
    refine dk_iconst (v := 1) X (by decide) d_Scene_make_102 ?_
    refine dk_iadd X d_Scene_make_103 ?_
    refine dk_puti X q_Scene 18 11 (by decide) (oC_Scene g ad T S9) f_Scene_58 rfl rfl (Nat.le_of_ble_eq_true rfl) (sC_Scene_size g ad T S9 _) d_Scene_make_104 hF (fun S10 hF => ?_)
    exact dk_retv hR hF d_Scene_make_107
  · exact dk_retv hR hF d_Scene_make_9
def F_Scene_make (n T : Nat) (x1 : Int32) (x2 : Int32) (x3 : Int32) (x4 : Int32) (x5 : Int32) (S : dk_S) : Option dk_S := B_Scene_make_0 n T x1 x2 x3 x4 x5 S
theorem c_Scene_make (l : Launch) (g : dk_G) (ad : Nat → Nat) (T n : Nat) (x1 : Int32) (x2 : Int32) (x3 : Int32) (x4 : Int32) (x5 : Int32)  (S : dk_S) : dk_Mv l g y_Scene_make b_Scene_make 6 rm_Scene_make (none) [.ref (ad 18), .int x1, .int x2, .int x3, .int x4, .int x5] (wC g ad T) S (F_Scene_make n T x1 x2 x3 x4 x5 S) := dk_enterv (by decide) rfl (Nat.le_of_ble_eq_true rfl) (fun p e s m args below meth c A Q res hF X hR => (kb_Scene_make_0 (n := n) X hR  hF))
abbrev b_Scene_makeForGround : ByteArray := prog_7_method_8_code
def y_Scene_makeForGround : MethodName := ⟨R_Scene, "makeForGround", "(II)V"⟩
theorem d_Scene_makeForGround_0 : decode b_Scene_makeForGround 0 = .ok (.aload_n 0, 1) := by decide +kernel
theorem d_Scene_makeForGround_1 : decode b_Scene_makeForGround 1 = .ok (.getfield 46, 3) := by decide +kernel
theorem d_Scene_makeForGround_4 : decode b_Scene_makeForGround 4 = .ok (.aload_n 0, 1) := by decide +kernel
theorem d_Scene_makeForGround_5 : decode b_Scene_makeForGround 5 = .ok (.getfield 37, 3) := by decide +kernel
theorem d_Scene_makeForGround_8 : decode b_Scene_makeForGround 8 = .ok (.iload_n 1, 1) := by decide +kernel
theorem d_Scene_makeForGround_9 : decode b_Scene_makeForGround 9 = .ok (.iaload, 1) := by decide +kernel
theorem d_Scene_makeForGround_10 : decode b_Scene_makeForGround 10 = .ok (.invokevirtual 139, 3) := by decide +kernel
theorem d_Scene_makeForGround_13 : decode b_Scene_makeForGround 13 = .ok (.istore_n 3, 1) := by decide +kernel
theorem d_Scene_makeForGround_14 : decode b_Scene_makeForGround 14 = .ok (.iload_n 3, 1) := by decide +kernel
theorem d_Scene_makeForGround_15 : decode b_Scene_makeForGround 15 = .ok (.iconst (-1), 1) := by decide +kernel
theorem d_Scene_makeForGround_16 : decode b_Scene_makeForGround 16 = .ok (.if_icmp .eq 12, 3) := by decide +kernel
theorem d_Scene_makeForGround_19 : decode b_Scene_makeForGround 19 = .ok (.aload_n 0, 1) := by decide +kernel
theorem d_Scene_makeForGround_20 : decode b_Scene_makeForGround 20 = .ok (.iconst 4, 1) := by decide +kernel
theorem d_Scene_makeForGround_21 : decode b_Scene_makeForGround 21 = .ok (.iload_n 1, 1) := by decide +kernel
theorem d_Scene_makeForGround_22 : decode b_Scene_makeForGround 22 = .ok (.iload_n 3, 1) := by decide +kernel
theorem d_Scene_makeForGround_23 : decode b_Scene_makeForGround 23 = .ok (.iload_n 2, 1) := by decide +kernel
theorem d_Scene_makeForGround_24 : decode b_Scene_makeForGround 24 = .ok (.iconst 0, 1) := by decide +kernel
theorem d_Scene_makeForGround_25 : decode b_Scene_makeForGround 25 = .ok (.invokevirtual 93, 3) := by decide +kernel
theorem d_Scene_makeForGround_28 : decode b_Scene_makeForGround 28 = .ok (.return_, 1) := by decide +kernel
theorem v_Scene_makeForGround : dk_Yv y_Scene_makeForGround b_Scene_makeForGround 4 (none) 2 := ⟨dk_in (List.mem_of_getElem? (i := 699) (by decide +kernel)) rfl, dk_in (List.mem_of_getElem? (i := 18) (by decide +kernel)) rfl, dk_in (List.mem_of_getElem? (i := 72) (by decide +kernel)) rfl, dk_in (List.mem_of_getElem? (i := 700) (by decide +kernel)) rfl, by decide +kernel, by decide +kernel, by decide +kernel⟩
abbrev rm_Scene_makeForGround : Room := { frames := 1, cells := 0, slots := 0, locals := 25 }
theorem m_Scene_93 : Cond.methodLink R_Scene 93 y_Scene_make ∈ dk_tb := dk_in (List.mem_of_getElem? (i := 693) (by decide +kernel)) rfl
def B_Scene_makeForGround_0 (n T : Nat)  (x1 : Int32) (x2 : Int32) (S : dk_S) : Option dk_S :=
  dk_r 6 (S 27) x1 fun v1 => dk_c (F_Land_ownerOf n T v1 S) fun r3 S2 => if r3 = (-1 : Int32) then (some S2) else (dk_cv (F_Scene_make n T (4 : Int32) x1 r3 x2 (0 : Int32) S2) fun S4 => some S4)
set_option maxRecDepth 20000 in
theorem kb_Scene_makeForGround_0 {p : Program} {l : Launch} {e : Env} {s : State} {m : MethodId} {args : Array Value} {below : List Frame} {meth : Method} {c : Code} {g : dk_G} {A : Nat → Prop} {Q : State → Prop} {ad : Nat → Nat} {T : Nat} {n : Nat} {res : dk_S} (X : dk_X p s m args meth c b_Scene_makeForGround 4 R_Scene (none) g A) (hR : dk_Rv p l e rm_Scene_makeForGround s m args below meth c g A Q 4 b_Scene_makeForGround (none) (wC g ad T) res)  {x1 : Int32} {x2 : Int32} {S : dk_S}  (hF : B_Scene_makeForGround_0 n T  x1 x2 S = some res) : dk_J p l e rm_Scene_makeForGround s m args below meth c g A Q 4 0 0 0 [(0, .ref (ad 18)), (1, .int x1), (2, .int x2)] [] (wC g ad T S) := by
  unfold B_Scene_makeForGround_0 at hF
  refine dk_aload_n (k := 0) (i := 0) X 0 rfl rfl d_Scene_makeForGround_0 ?_
  refine dk_get X q_Scene 18 0 (by decide) (oC_Scene g ad T S) rfl f_Scene_46 d_Scene_makeForGround_1 ?_
  refine dk_aload_n (k := 0) (i := 0) X 0 rfl rfl d_Scene_makeForGround_4 ?_
  refine dk_get X q_Scene 18 13 (by decide) (oC_Scene g ad T S) rfl f_Scene_37 d_Scene_makeForGround_5 ?_
  refine dk_iload_n (k := 1) (i := 1) X 1 rfl rfl d_Scene_makeForGround_8 ?_
  refine dk_iald X 27 (aC_27 g ad T S) d_Scene_makeForGround_9 hF (fun v1 hF => ?_)
  refine dk_callVi X v_Land_ownerOf [.int v1] (c_Land_ownerOf l g ad T n v1 S) 1 (oC_Land g ad T S) rfl rfl m_Scene_139 rfl rfl ⟨rfl, rfl, Nat.le_of_ble_eq_true rfl, Nat.le_of_ble_eq_true rfl, Nat.le_refl _, Nat.le_refl _⟩ (Nat.le_of_ble_eq_true rfl) d_Scene_makeForGround_10 hF (fun r3 S2 hF => ?_)
  refine dk_istore_n (k := 3) (i := 3) (lv' := [(3, .int r3), (0, .ref (ad 18)), (1, .int x1), (2, .int x2)]) X rfl (by decide) rfl d_Scene_makeForGround_13 ?_
  refine dk_iload_n (k := 3) (i := 3) X 0 rfl rfl d_Scene_makeForGround_14 ?_
  refine dk_iconst (v := -1) X (by decide) d_Scene_makeForGround_15 ?_
  refine dk_icmp_eq (tgt := 28) X (by decide) d_Scene_makeForGround_16 hF (fun hF => ?_) (fun hF => ?_)
  · exact dk_retv hR hF d_Scene_makeForGround_28
  · refine dk_aload_n (k := 0) (i := 0) X 1 rfl rfl d_Scene_makeForGround_19 ?_
    refine dk_iconst (v := 4) X (by decide) d_Scene_makeForGround_20 ?_
    refine dk_iload_n (k := 1) (i := 1) X 2 rfl rfl d_Scene_makeForGround_21 ?_
    refine dk_iload_n (k := 3) (i := 3) X 0 rfl rfl d_Scene_makeForGround_22 ?_
    refine dk_iload_n (k := 2) (i := 2) X 3 rfl rfl d_Scene_makeForGround_23 ?_
    refine dk_iconst (v := 0) X (by decide) d_Scene_makeForGround_24 ?_
    refine dk_callVv X v_Scene_make [.int (4 : Int32), .int x1, .int r3, .int x2, .int (0 : Int32)] (c_Scene_make l g ad T n (4 : Int32) x1 r3 x2 (0 : Int32) S2) 18 (oC_Scene g ad T S2) rfl rfl m_Scene_93 rfl rfl ⟨rfl, rfl, Nat.le_of_ble_eq_true rfl, Nat.le_of_ble_eq_true rfl, Nat.le_refl _, Nat.le_refl _⟩ (Nat.le_of_ble_eq_true rfl) d_Scene_makeForGround_25 hF (fun S4 hF => ?_)
    exact dk_retv hR hF d_Scene_makeForGround_28
def F_Scene_makeForGround (n T : Nat) (x1 : Int32) (x2 : Int32) (S : dk_S) : Option dk_S := B_Scene_makeForGround_0 n T x1 x2 S
theorem c_Scene_makeForGround (l : Launch) (g : dk_G) (ad : Nat → Nat) (T n : Nat) (x1 : Int32) (x2 : Int32)  (S : dk_S) : dk_Mv l g y_Scene_makeForGround b_Scene_makeForGround 4 rm_Scene_makeForGround (none) [.ref (ad 18), .int x1, .int x2] (wC g ad T) S (F_Scene_makeForGround n T x1 x2 S) := dk_enterv (by decide) rfl (Nat.le_of_ble_eq_true rfl) (fun p e s m args below meth c A Q res hF X hR => (kb_Scene_makeForGround_0 (n := n) X hR  hF))
abbrev b_Scene_begin : ByteArray := prog_7_method_5_code
def y_Scene_begin : MethodName := ⟨R_Scene, "begin", "()V"⟩
theorem d_Scene_begin_0 : decode b_Scene_begin 0 = .ok (.aload_n 0, 1) := by decide +kernel
theorem d_Scene_begin_1 : decode b_Scene_begin 1 = .ok (.iconst 0, 1) := by decide +kernel
theorem d_Scene_begin_2 : decode b_Scene_begin 2 = .ok (.putfield 58, 3) := by decide +kernel
theorem d_Scene_begin_5 : decode b_Scene_begin 5 = .ok (.aload_n 0, 1) := by decide +kernel
theorem d_Scene_begin_6 : decode b_Scene_begin 6 = .ok (.iconst 0, 1) := by decide +kernel
theorem d_Scene_begin_7 : decode b_Scene_begin 7 = .ok (.putfield 75, 3) := by decide +kernel
theorem d_Scene_begin_10 : decode b_Scene_begin 10 = .ok (.iconst 0, 1) := by decide +kernel
theorem d_Scene_begin_11 : decode b_Scene_begin 11 = .ok (.istore_n 1, 1) := by decide +kernel
theorem d_Scene_begin_12 : decode b_Scene_begin 12 = .ok (.iload_n 1, 1) := by decide +kernel
theorem d_Scene_begin_13 : decode b_Scene_begin 13 = .ok (.aload_n 0, 1) := by decide +kernel
theorem d_Scene_begin_14 : decode b_Scene_begin 14 = .ok (.getfield 46, 3) := by decide +kernel
theorem d_Scene_begin_17 : decode b_Scene_begin 17 = .ok (.getfield 78, 3) := by decide +kernel
theorem d_Scene_begin_20 : decode b_Scene_begin 20 = .ok (.if_icmp .ge 72, 3) := by decide +kernel
theorem d_Scene_begin_23 : decode b_Scene_begin 23 = .ok (.aload_n 0, 1) := by decide +kernel
theorem d_Scene_begin_24 : decode b_Scene_begin 24 = .ok (.getfield 37, 3) := by decide +kernel
theorem d_Scene_begin_27 : decode b_Scene_begin 27 = .ok (.iload_n 1, 1) := by decide +kernel
theorem d_Scene_begin_28 : decode b_Scene_begin 28 = .ok (.aload_n 0, 1) := by decide +kernel
theorem d_Scene_begin_29 : decode b_Scene_begin 29 = .ok (.getfield 46, 3) := by decide +kernel
theorem d_Scene_begin_32 : decode b_Scene_begin 32 = .ok (.getfield 83, 3) := by decide +kernel
theorem d_Scene_begin_35 : decode b_Scene_begin 35 = .ok (.iload_n 1, 1) := by decide +kernel
theorem d_Scene_begin_36 : decode b_Scene_begin 36 = .ok (.iaload, 1) := by decide +kernel
theorem d_Scene_begin_37 : decode b_Scene_begin 37 = .ok (.iastore, 1) := by decide +kernel
theorem d_Scene_begin_38 : decode b_Scene_begin 38 = .ok (.aload_n 0, 1) := by decide +kernel
theorem d_Scene_begin_39 : decode b_Scene_begin 39 = .ok (.getfield 40, 3) := by decide +kernel
theorem d_Scene_begin_42 : decode b_Scene_begin 42 = .ok (.iload_n 1, 1) := by decide +kernel
theorem d_Scene_begin_43 : decode b_Scene_begin 43 = .ok (.iconst 0, 1) := by decide +kernel
theorem d_Scene_begin_44 : decode b_Scene_begin 44 = .ok (.iastore, 1) := by decide +kernel
theorem d_Scene_begin_45 : decode b_Scene_begin 45 = .ok (.aload_n 0, 1) := by decide +kernel
theorem d_Scene_begin_46 : decode b_Scene_begin 46 = .ok (.getfield 43, 3) := by decide +kernel
theorem d_Scene_begin_49 : decode b_Scene_begin 49 = .ok (.iload_n 1, 1) := by decide +kernel
theorem d_Scene_begin_50 : decode b_Scene_begin 50 = .ok (.iconst 0, 1) := by decide +kernel
theorem d_Scene_begin_51 : decode b_Scene_begin 51 = .ok (.bastore, 1) := by decide +kernel
theorem d_Scene_begin_52 : decode b_Scene_begin 52 = .ok (.aload_n 0, 1) := by decide +kernel
theorem d_Scene_begin_53 : decode b_Scene_begin 53 = .ok (.getfield 46, 3) := by decide +kernel
theorem d_Scene_begin_56 : decode b_Scene_begin 56 = .ok (.iload_n 1, 1) := by decide +kernel
theorem d_Scene_begin_57 : decode b_Scene_begin 57 = .ok (.invokevirtual 86, 3) := by decide +kernel
theorem d_Scene_begin_60 : decode b_Scene_begin 60 = .ok (.ifCond .eq 20, 3) := by decide +kernel
theorem d_Scene_begin_63 : decode b_Scene_begin 63 = .ok (.aload_n 0, 1) := by decide +kernel
theorem d_Scene_begin_64 : decode b_Scene_begin 64 = .ok (.iconst 5, 1) := by decide +kernel
theorem d_Scene_begin_65 : decode b_Scene_begin 65 = .ok (.iload_n 1, 1) := by decide +kernel
theorem d_Scene_begin_66 : decode b_Scene_begin 66 = .ok (.aload_n 0, 1) := by decide +kernel
theorem d_Scene_begin_67 : decode b_Scene_begin 67 = .ok (.getfield 46, 3) := by decide +kernel
theorem d_Scene_begin_70 : decode b_Scene_begin 70 = .ok (.getfield 90, 3) := by decide +kernel
theorem d_Scene_begin_73 : decode b_Scene_begin 73 = .ok (.iload_n 1, 1) := by decide +kernel
theorem d_Scene_begin_74 : decode b_Scene_begin 74 = .ok (.iaload, 1) := by decide +kernel
theorem d_Scene_begin_75 : decode b_Scene_begin 75 = .ok (.iconst 0, 1) := by decide +kernel
theorem d_Scene_begin_76 : decode b_Scene_begin 76 = .ok (.iconst 0, 1) := by decide +kernel
theorem d_Scene_begin_77 : decode b_Scene_begin 77 = .ok (.invokevirtual 93, 3) := by decide +kernel
theorem d_Scene_begin_80 : decode b_Scene_begin 80 = .ok (.aload_n 0, 1) := by decide +kernel
theorem d_Scene_begin_81 : decode b_Scene_begin 81 = .ok (.iload_n 1, 1) := by decide +kernel
theorem d_Scene_begin_82 : decode b_Scene_begin 82 = .ok (.iconst 0, 1) := by decide +kernel
theorem d_Scene_begin_83 : decode b_Scene_begin 83 = .ok (.invokevirtual 97, 3) := by decide +kernel
theorem d_Scene_begin_86 : decode b_Scene_begin 86 = .ok (.iinc 1 1, 3) := by decide +kernel
theorem d_Scene_begin_89 : decode b_Scene_begin 89 = .ok (.goto (-77), 3) := by decide +kernel
theorem d_Scene_begin_92 : decode b_Scene_begin 92 = .ok (.return_, 1) := by decide +kernel
theorem v_Scene_begin : dk_Yv y_Scene_begin b_Scene_begin 2 (none) 0 := ⟨dk_in (List.mem_of_getElem? (i := 690) (by decide +kernel)) rfl, dk_in (List.mem_of_getElem? (i := 691) (by decide +kernel)) rfl, dk_in (List.mem_of_getElem? (i := 72) (by decide +kernel)) rfl, dk_in (List.mem_of_getElem? (i := 692) (by decide +kernel)) rfl, by decide +kernel, by decide +kernel, by decide +kernel⟩
abbrev rm_Scene_begin : Room := { frames := 2, cells := 0, slots := 0, locals := 48 }
theorem f_Scene_40 : Cond.fieldLink R_Scene 40 (T_Scene 14).1 (T_Scene 14).2.1 (T_Scene 14).2.2.1 ∈ dk_tb := dk_in (List.mem_of_getElem? (i := 271) (by decide +kernel)) rfl
theorem f_Scene_43 : Cond.fieldLink R_Scene 43 (T_Scene 15).1 (T_Scene 15).2.1 (T_Scene 15).2.2.1 ∈ dk_tb := dk_in (List.mem_of_getElem? (i := 273) (by decide +kernel)) rfl
theorem f_Scene_75 : Cond.fieldLink R_Scene 75 (T_Scene 12).1 (T_Scene 12).2.1 (T_Scene 12).2.2.1 ∈ dk_tb := dk_in (List.mem_of_getElem? (i := 268) (by decide +kernel)) rfl
theorem f_Scene_78 : Cond.fieldLink R_Scene 78 (T_Land 4).1 (T_Land 4).2.1 (T_Land 4).2.2.1 ∈ dk_tb := dk_in (List.mem_of_getElem? (i := 110) (by decide +kernel)) rfl
theorem f_Scene_83 : Cond.fieldLink R_Scene 83 (T_Land 1).1 (T_Land 1).2.1 (T_Land 1).2.2.1 ∈ dk_tb := dk_in (List.mem_of_getElem? (i := 102) (by decide +kernel)) rfl
theorem f_Scene_90 : Cond.fieldLink R_Scene 90 (T_Land 2).1 (T_Land 2).2.1 (T_Land 2).2.2.1 ∈ dk_tb := dk_in (List.mem_of_getElem? (i := 105) (by decide +kernel)) rfl
theorem m_Scene_97 : Cond.methodLink R_Scene 97 y_Scene_makeForGround ∈ dk_tb := dk_in (List.mem_of_getElem? (i := 697) (by decide +kernel)) rfl
def B_Scene_begin_80 (n T : Nat) (k12 : Int32 → dk_S → Option dk_S) (x1 : Int32) (S : dk_S) : Option dk_S :=
  dk_cv (F_Scene_makeForGround n T x1 (0 : Int32) S) fun S1 => k12 (x1 + (1 : Int32)) S1
set_option maxRecDepth 20000 in
theorem kb_Scene_begin_80 {p : Program} {l : Launch} {e : Env} {s : State} {m : MethodId} {args : Array Value} {below : List Frame} {meth : Method} {c : Code} {g : dk_G} {A : Nat → Prop} {Q : State → Prop} {ad : Nat → Nat} {T : Nat} {n : Nat} {res : dk_S} (X : dk_X p s m args meth c b_Scene_begin 2 R_Scene (none) g A) (hR : dk_Rv p l e rm_Scene_begin s m args below meth c g A Q 2 b_Scene_begin (none) (wC g ad T) res) {k12 : Int32 → dk_S → Option dk_S} (hk12 : ∀ (x1 : Int32)  (S : dk_S), k12 x1 S = some res → dk_J p l e rm_Scene_begin s m args below meth c g A Q 2 0 0 12 [(0, .ref (ad 18)), (1, .int x1)] [] (wC g ad T S)) {x1 : Int32} {S : dk_S}  (hF : B_Scene_begin_80 n T k12 x1 S = some res) : dk_J p l e rm_Scene_begin s m args below meth c g A Q 2 0 0 80 [(0, .ref (ad 18)), (1, .int x1)] [] (wC g ad T S) := by
  unfold B_Scene_begin_80 at hF
  refine dk_aload_n (k := 0) (i := 0) X 0 rfl rfl d_Scene_begin_80 ?_
  refine dk_iload_n (k := 1) (i := 1) X 1 rfl rfl d_Scene_begin_81 ?_
  refine dk_iconst (v := 0) X (by decide) d_Scene_begin_82 ?_
  refine dk_callVv X v_Scene_makeForGround [.int x1, .int (0 : Int32)] (c_Scene_makeForGround l g ad T n x1 (0 : Int32) S) 18 (oC_Scene g ad T S) rfl rfl m_Scene_97 rfl rfl ⟨rfl, rfl, Nat.le_of_ble_eq_true rfl, Nat.le_of_ble_eq_true rfl, Nat.le_refl _, Nat.le_refl _⟩ (Nat.le_of_ble_eq_true rfl) d_Scene_begin_83 hF (fun S1 hF => ?_)
  refine dk_iinc (i := 1) (v := (x1 + (1 : Int32))) (lv' := [(1, .int (x1 + (1 : Int32))), (0, .ref (ad 18))]) X 1 rfl (dk_ii _ (by decide)) (by decide) rfl d_Scene_begin_86 ?_
  refine dk_goto (tgt := 12) X (by decide) d_Scene_begin_89 ?_
  exact dk_sub [1, 0] rfl (hk12 (x1 + (1 : Int32)) S1 hF)
def B_Scene_begin_12b (n T : Nat) (k12 : Int32 → dk_S → Option dk_S) (x1 : Int32) (S : dk_S) : Option dk_S :=
  if (S 103 0) ≤ x1 then (some S) else (dk_r 6 (S 3) x1 fun v3 => dk_w S 27 6 x1 v3 fun S4 => dk_w S4 28 6 x1 (0 : Int32) fun S5 => dk_w S5 29 6 x1 (vp_nar .boolean (0 : Int32)) fun S6 => dk_c (F_Land_isTame n T x1 S6) fun r8 S7 => if r8 = 0 then (B_Scene_begin_80 n T k12 x1 S7) else (dk_r 6 (S7 4) x1 fun v9 => dk_cv (F_Scene_make n T (5 : Int32) x1 v9 (0 : Int32) (0 : Int32) S7) fun S10 => B_Scene_begin_80 n T k12 x1 S10))
set_option maxRecDepth 20000 in
theorem kb_Scene_begin_12b {p : Program} {l : Launch} {e : Env} {s : State} {m : MethodId} {args : Array Value} {below : List Frame} {meth : Method} {c : Code} {g : dk_G} {A : Nat → Prop} {Q : State → Prop} {ad : Nat → Nat} {T : Nat} {n : Nat} {res : dk_S} (X : dk_X p s m args meth c b_Scene_begin 2 R_Scene (none) g A) (hR : dk_Rv p l e rm_Scene_begin s m args below meth c g A Q 2 b_Scene_begin (none) (wC g ad T) res) {k12 : Int32 → dk_S → Option dk_S} (hk12 : ∀ (x1 : Int32)  (S : dk_S), k12 x1 S = some res → dk_J p l e rm_Scene_begin s m args below meth c g A Q 2 0 0 12 [(0, .ref (ad 18)), (1, .int x1)] [] (wC g ad T S)) {x1 : Int32} {S : dk_S}  (hF : B_Scene_begin_12b n T k12 x1 S = some res) : dk_J p l e rm_Scene_begin s m args below meth c g A Q 2 0 0 12 [(0, .ref (ad 18)), (1, .int x1)] [] (wC g ad T S) := by
  unfold B_Scene_begin_12b at hF
  refine dk_iload_n (k := 1) (i := 1) X 1 rfl rfl d_Scene_begin_12 ?_
  refine dk_aload_n (k := 0) (i := 0) X 0 rfl rfl d_Scene_begin_13 ?_
  refine dk_get X q_Scene 18 0 (by decide) (oC_Scene g ad T S) rfl f_Scene_46 d_Scene_begin_14 ?_
  refine dk_get X q_Land 1 4 (by decide) (oC_Land g ad T S) rfl f_Scene_78 d_Scene_begin_17 ?_
  refine dk_icmp_ge (tgt := 92) X (by decide) d_Scene_begin_20 hF (fun hF => ?_) (fun hF => ?_)
  · exact dk_retv hR hF d_Scene_begin_92
  · refine dk_aload_n (k := 0) (i := 0) X 0 rfl rfl d_Scene_begin_23 ?_
    refine dk_get X q_Scene 18 13 (by decide) (oC_Scene g ad T S) rfl f_Scene_37 d_Scene_begin_24 ?_
    refine dk_iload_n (k := 1) (i := 1) X 1 rfl rfl d_Scene_begin_27 ?_
    refine dk_aload_n (k := 0) (i := 0) X 0 rfl rfl d_Scene_begin_28 ?_
    refine dk_get X q_Scene 18 0 (by decide) (oC_Scene g ad T S) rfl f_Scene_46 d_Scene_begin_29 ?_
    refine dk_get X q_Land 1 1 (by decide) (oC_Land g ad T S) rfl f_Scene_83 d_Scene_begin_32 ?_
    refine dk_iload_n (k := 1) (i := 1) X 1 rfl rfl d_Scene_begin_35 ?_
    refine dk_iald X 3 (aC_3 g ad T S) d_Scene_begin_36 hF (fun v3 hF => ?_)
    refine dk_iast X 27 (aC_27 g ad T S) (sC_27 g ad T S _ _) d_Scene_begin_37 hF (fun S4 hF => ?_)
    refine dk_aload_n (k := 0) (i := 0) X 0 rfl rfl d_Scene_begin_38 ?_
    refine dk_get X q_Scene 18 14 (by decide) (oC_Scene g ad T S4) rfl f_Scene_40 d_Scene_begin_39 ?_
    refine dk_iload_n (k := 1) (i := 1) X 1 rfl rfl d_Scene_begin_42 ?_
    refine dk_iconst (v := 0) X (by decide) d_Scene_begin_43 ?_
    refine dk_iast X 28 (aC_28 g ad T S4) (sC_28 g ad T S4 _ _) d_Scene_begin_44 hF (fun S5 hF => ?_)
    refine dk_aload_n (k := 0) (i := 0) X 0 rfl rfl d_Scene_begin_45 ?_
    refine dk_get X q_Scene 18 15 (by decide) (oC_Scene g ad T S5) rfl f_Scene_43 d_Scene_begin_46 ?_
    refine dk_iload_n (k := 1) (i := 1) X 1 rfl rfl d_Scene_begin_49 ?_
    refine dk_iconst (v := 0) X (by decide) d_Scene_begin_50 ?_
    refine dk_zast X 29 (aC_29 g ad T S5) (sC_29 g ad T S5 _ _) d_Scene_begin_51 hF (fun S6 hF => ?_)
    refine dk_aload_n (k := 0) (i := 0) X 0 rfl rfl d_Scene_begin_52 ?_
    refine dk_get X q_Scene 18 0 (by decide) (oC_Scene g ad T S6) rfl f_Scene_46 d_Scene_begin_53 ?_
    refine dk_iload_n (k := 1) (i := 1) X 1 rfl rfl d_Scene_begin_56 ?_
    refine dk_callVi X v_Land_isTame [.int x1] (c_Land_isTame l g ad T n x1 S6) 1 (oC_Land g ad T S6) rfl rfl m_Scene_86 rfl rfl ⟨rfl, rfl, Nat.le_of_ble_eq_true rfl, Nat.le_of_ble_eq_true rfl, Nat.le_refl _, Nat.le_refl _⟩ (Nat.le_of_ble_eq_true rfl) d_Scene_begin_57 hF (fun r8 S7 hF => ?_)
    refine dk_if_eq (tgt := 80) X (by decide) d_Scene_begin_60 hF (fun hF => ?_) (fun hF => ?_)
    · exact (kb_Scene_begin_80 (n := n) X hR hk12  hF)
    · refine dk_aload_n (k := 0) (i := 0) X 0 rfl rfl d_Scene_begin_63 ?_
      refine dk_iconst (v := 5) X (by decide) d_Scene_begin_64 ?_
      refine dk_iload_n (k := 1) (i := 1) X 1 rfl rfl d_Scene_begin_65 ?_
      refine dk_aload_n (k := 0) (i := 0) X 0 rfl rfl d_Scene_begin_66 ?_
      refine dk_get X q_Scene 18 0 (by decide) (oC_Scene g ad T S7) rfl f_Scene_46 d_Scene_begin_67 ?_
      refine dk_get X q_Land 1 2 (by decide) (oC_Land g ad T S7) rfl f_Scene_90 d_Scene_begin_70 ?_
      refine dk_iload_n (k := 1) (i := 1) X 1 rfl rfl d_Scene_begin_73 ?_
      refine dk_iald X 4 (aC_4 g ad T S7) d_Scene_begin_74 hF (fun v9 hF => ?_)
      refine dk_iconst (v := 0) X (by decide) d_Scene_begin_75 ?_
      refine dk_iconst (v := 0) X (by decide) d_Scene_begin_76 ?_
      refine dk_callVv X v_Scene_make [.int (5 : Int32), .int x1, .int v9, .int (0 : Int32), .int (0 : Int32)] (c_Scene_make l g ad T n (5 : Int32) x1 v9 (0 : Int32) (0 : Int32) S7) 18 (oC_Scene g ad T S7) rfl rfl m_Scene_93 rfl rfl ⟨rfl, rfl, Nat.le_of_ble_eq_true rfl, Nat.le_of_ble_eq_true rfl, Nat.le_refl _, Nat.le_refl _⟩ (Nat.le_of_ble_eq_true rfl) d_Scene_begin_77 hF (fun S10 hF => ?_)
      exact (kb_Scene_begin_80 (n := n) X hR hk12  hF)
def B_Scene_begin_12 (n T : Nat)  : Nat → Int32 → dk_S → Option dk_S
  | 0 => fun _ _ => none
  | q + 1 => fun x1 S => B_Scene_begin_12b n T (fun x1 S => B_Scene_begin_12 n T  q x1 S) x1 S
theorem kb_Scene_begin_12 {p : Program} {l : Launch} {e : Env} {s : State} {m : MethodId} {args : Array Value} {below : List Frame} {meth : Method} {c : Code} {g : dk_G} {A : Nat → Prop} {Q : State → Prop} {ad : Nat → Nat} {T : Nat} {n : Nat} {res : dk_S} (X : dk_X p s m args meth c b_Scene_begin 2 R_Scene (none) g A) (hR : dk_Rv p l e rm_Scene_begin s m args below meth c g A Q 2 b_Scene_begin (none) (wC g ad T) res)  : ∀ (q : Nat) (x1 : Int32)  (S : dk_S), B_Scene_begin_12 n T  q x1 S = some res → dk_J p l e rm_Scene_begin s m args below meth c g A Q 2 0 0 12 [(0, .ref (ad 18)), (1, .int x1)] [] (wC g ad T S) := by
  intro q
  induction q with
  | zero => intro x1  S hF; cases hF
  | succ q ih => intro x1  S hF; exact kb_Scene_begin_12b (n := n) X hR ih  hF
def B_Scene_begin_0 (n T : Nat)   (S : dk_S) : Option dk_S :=
  dk_p S 115 (0 : Int32) fun S12 => dk_p S12 116 (0 : Int32) fun S13 => B_Scene_begin_12 n T  n (0 : Int32) S13
set_option maxRecDepth 20000 in
theorem kb_Scene_begin_0 {p : Program} {l : Launch} {e : Env} {s : State} {m : MethodId} {args : Array Value} {below : List Frame} {meth : Method} {c : Code} {g : dk_G} {A : Nat → Prop} {Q : State → Prop} {ad : Nat → Nat} {T : Nat} {n : Nat} {res : dk_S} (X : dk_X p s m args meth c b_Scene_begin 2 R_Scene (none) g A) (hR : dk_Rv p l e rm_Scene_begin s m args below meth c g A Q 2 b_Scene_begin (none) (wC g ad T) res)   {S : dk_S}  (hF : B_Scene_begin_0 n T   S = some res) : dk_J p l e rm_Scene_begin s m args below meth c g A Q 2 0 0 0 [(0, .ref (ad 18))] [] (wC g ad T S) := by
  unfold B_Scene_begin_0 at hF
  refine dk_aload_n (k := 0) (i := 0) X 0 rfl rfl d_Scene_begin_0 ?_
  refine dk_iconst (v := 0) X (by decide) d_Scene_begin_1 ?_
  refine dk_puti X q_Scene 18 11 (by decide) (oC_Scene g ad T S) f_Scene_58 rfl rfl (Nat.le_of_ble_eq_true rfl) (sC_Scene_size g ad T S _) d_Scene_begin_2 hF (fun S12 hF => ?_)
  refine dk_aload_n (k := 0) (i := 0) X 0 rfl rfl d_Scene_begin_5 ?_
  refine dk_iconst (v := 0) X (by decide) d_Scene_begin_6 ?_
  refine dk_puti X q_Scene 18 12 (by decide) (oC_Scene g ad T S12) f_Scene_75 rfl rfl (Nat.le_of_ble_eq_true rfl) (sC_Scene_now g ad T S12 _) d_Scene_begin_7 hF (fun S13 hF => ?_)
  refine dk_iconst (v := 0) X (by decide) d_Scene_begin_10 ?_
  refine dk_istore_n (k := 1) (i := 1) (lv' := [(1, .int (0 : Int32)), (0, .ref (ad 18))]) X rfl (by decide) rfl d_Scene_begin_11 ?_
  exact dk_sub [1, 0] rfl (kb_Scene_begin_12 (n := n) X hR  n (0 : Int32) S13 hF)
def F_Scene_begin (n T : Nat)  (S : dk_S) : Option dk_S := B_Scene_begin_0 n T  S
theorem c_Scene_begin (l : Launch) (g : dk_G) (ad : Nat → Nat) (T n : Nat)   (S : dk_S) : dk_Mv l g y_Scene_begin b_Scene_begin 2 rm_Scene_begin (none) [.ref (ad 18)] (wC g ad T) S (F_Scene_begin n T  S) := dk_enterv (by decide) rfl (Nat.le_of_ble_eq_true rfl) (fun p e s m args below meth c A Q res hF X hR => (kb_Scene_begin_0 (n := n) X hR  hF))
abbrev b_Scene_cross : ByteArray := prog_7_method_11_code
def y_Scene_cross : MethodName := ⟨R_Scene, "cross", "(III)V"⟩
theorem d_Scene_cross_0 : decode b_Scene_cross 0 = .ok (.aload_n 0, 1) := by decide +kernel
theorem d_Scene_cross_1 : decode b_Scene_cross 1 = .ok (.getfield 43, 3) := by decide +kernel
theorem d_Scene_cross_4 : decode b_Scene_cross 4 = .ok (.iload_n 1, 1) := by decide +kernel
theorem d_Scene_cross_5 : decode b_Scene_cross 5 = .ok (.baload, 1) := by decide +kernel
theorem d_Scene_cross_6 : decode b_Scene_cross 6 = .ok (.ifCond .ne 13, 3) := by decide +kernel
theorem d_Scene_cross_9 : decode b_Scene_cross 9 = .ok (.aload_n 0, 1) := by decide +kernel
theorem d_Scene_cross_10 : decode b_Scene_cross 10 = .ok (.getfield 37, 3) := by decide +kernel
theorem d_Scene_cross_13 : decode b_Scene_cross 13 = .ok (.iload_n 1, 1) := by decide +kernel
theorem d_Scene_cross_14 : decode b_Scene_cross 14 = .ok (.iaload, 1) := by decide +kernel
theorem d_Scene_cross_15 : decode b_Scene_cross 15 = .ok (.iload_n 2, 1) := by decide +kernel
theorem d_Scene_cross_16 : decode b_Scene_cross 16 = .ok (.if_icmp .ne 4, 3) := by decide +kernel
theorem d_Scene_cross_19 : decode b_Scene_cross 19 = .ok (.return_, 1) := by decide +kernel
theorem d_Scene_cross_20 : decode b_Scene_cross 20 = .ok (.aload_n 0, 1) := by decide +kernel
theorem d_Scene_cross_21 : decode b_Scene_cross 21 = .ok (.getfield 37, 3) := by decide +kernel
theorem d_Scene_cross_24 : decode b_Scene_cross 24 = .ok (.iload_n 1, 1) := by decide +kernel
theorem d_Scene_cross_25 : decode b_Scene_cross 25 = .ok (.iaload, 1) := by decide +kernel
theorem d_Scene_cross_26 : decode b_Scene_cross 26 = .ok (.aload_n 0, 1) := by decide +kernel
theorem d_Scene_cross_27 : decode b_Scene_cross 27 = .ok (.getfield 46, 3) := by decide +kernel
theorem d_Scene_cross_30 : decode b_Scene_cross 30 = .ok (.getfield 83, 3) := by decide +kernel
theorem d_Scene_cross_33 : decode b_Scene_cross 33 = .ok (.iload_n 1, 1) := by decide +kernel
theorem d_Scene_cross_34 : decode b_Scene_cross 34 = .ok (.iaload, 1) := by decide +kernel
theorem d_Scene_cross_35 : decode b_Scene_cross 35 = .ok (.if_icmp .ne 10, 3) := by decide +kernel
theorem d_Scene_cross_38 : decode b_Scene_cross 38 = .ok (.aload_n 0, 1) := by decide +kernel
theorem d_Scene_cross_39 : decode b_Scene_cross 39 = .ok (.getfield 40, 3) := by decide +kernel
theorem d_Scene_cross_42 : decode b_Scene_cross 42 = .ok (.iload_n 1, 1) := by decide +kernel
theorem d_Scene_cross_43 : decode b_Scene_cross 43 = .ok (.iload_n 3, 1) := by decide +kernel
theorem d_Scene_cross_44 : decode b_Scene_cross 44 = .ok (.iastore, 1) := by decide +kernel
theorem d_Scene_cross_45 : decode b_Scene_cross 45 = .ok (.aload_n 0, 1) := by decide +kernel
theorem d_Scene_cross_46 : decode b_Scene_cross 46 = .ok (.getfield 37, 3) := by decide +kernel
theorem d_Scene_cross_49 : decode b_Scene_cross 49 = .ok (.iload_n 1, 1) := by decide +kernel
theorem d_Scene_cross_50 : decode b_Scene_cross 50 = .ok (.iload_n 2, 1) := by decide +kernel
theorem d_Scene_cross_51 : decode b_Scene_cross 51 = .ok (.iastore, 1) := by decide +kernel
theorem d_Scene_cross_52 : decode b_Scene_cross 52 = .ok (.aload_n 0, 1) := by decide +kernel
theorem d_Scene_cross_53 : decode b_Scene_cross 53 = .ok (.iload_n 1, 1) := by decide +kernel
theorem d_Scene_cross_54 : decode b_Scene_cross 54 = .ok (.iload_n 3, 1) := by decide +kernel
theorem d_Scene_cross_55 : decode b_Scene_cross 55 = .ok (.invokevirtual 97, 3) := by decide +kernel
theorem d_Scene_cross_58 : decode b_Scene_cross 58 = .ok (.return_, 1) := by decide +kernel
theorem v_Scene_cross : dk_Yv y_Scene_cross b_Scene_cross 4 (none) 3 := ⟨dk_in (List.mem_of_getElem? (i := 717) (by decide +kernel)) rfl, dk_in (List.mem_of_getElem? (i := 21) (by decide +kernel)) rfl, dk_in (List.mem_of_getElem? (i := 72) (by decide +kernel)) rfl, dk_in (List.mem_of_getElem? (i := 718) (by decide +kernel)) rfl, by decide +kernel, by decide +kernel, by decide +kernel⟩
abbrev rm_Scene_cross : Room := { frames := 2, cells := 0, slots := 0, locals := 48 }
def B_Scene_cross_45 (n T : Nat)  (x1 : Int32) (x2 : Int32) (x3 : Int32) (S : dk_S) : Option dk_S :=
  dk_w S 27 6 x1 x2 fun S1 => dk_cv (F_Scene_makeForGround n T x1 x3 S1) fun S2 => some S2
set_option maxRecDepth 20000 in
theorem kb_Scene_cross_45 {p : Program} {l : Launch} {e : Env} {s : State} {m : MethodId} {args : Array Value} {below : List Frame} {meth : Method} {c : Code} {g : dk_G} {A : Nat → Prop} {Q : State → Prop} {ad : Nat → Nat} {T : Nat} {n : Nat} {res : dk_S} (X : dk_X p s m args meth c b_Scene_cross 4 R_Scene (none) g A) (hR : dk_Rv p l e rm_Scene_cross s m args below meth c g A Q 4 b_Scene_cross (none) (wC g ad T) res)  {x1 : Int32} {x2 : Int32} {x3 : Int32} {S : dk_S}  (hF : B_Scene_cross_45 n T  x1 x2 x3 S = some res) : dk_J p l e rm_Scene_cross s m args below meth c g A Q 4 0 0 45 [(0, .ref (ad 18)), (1, .int x1), (2, .int x2), (3, .int x3)] [] (wC g ad T S) := by
  unfold B_Scene_cross_45 at hF
  refine dk_aload_n (k := 0) (i := 0) X 0 rfl rfl d_Scene_cross_45 ?_
  refine dk_get X q_Scene 18 13 (by decide) (oC_Scene g ad T S) rfl f_Scene_37 d_Scene_cross_46 ?_
  refine dk_iload_n (k := 1) (i := 1) X 1 rfl rfl d_Scene_cross_49 ?_
  refine dk_iload_n (k := 2) (i := 2) X 2 rfl rfl d_Scene_cross_50 ?_
  refine dk_iast X 27 (aC_27 g ad T S) (sC_27 g ad T S _ _) d_Scene_cross_51 hF (fun S1 hF => ?_)
  refine dk_aload_n (k := 0) (i := 0) X 0 rfl rfl d_Scene_cross_52 ?_
  refine dk_iload_n (k := 1) (i := 1) X 1 rfl rfl d_Scene_cross_53 ?_
  refine dk_iload_n (k := 3) (i := 3) X 3 rfl rfl d_Scene_cross_54 ?_
  refine dk_callVv X v_Scene_makeForGround [.int x1, .int x3] (c_Scene_makeForGround l g ad T n x1 x3 S1) 18 (oC_Scene g ad T S1) rfl rfl m_Scene_97 rfl rfl ⟨rfl, rfl, Nat.le_of_ble_eq_true rfl, Nat.le_of_ble_eq_true rfl, Nat.le_refl _, Nat.le_refl _⟩ (Nat.le_of_ble_eq_true rfl) d_Scene_cross_55 hF (fun S2 hF => ?_)
  exact dk_retv hR hF d_Scene_cross_58
def B_Scene_cross_0 (n T : Nat)  (x1 : Int32) (x2 : Int32) (x3 : Int32) (S : dk_S) : Option dk_S :=
  dk_r 6 (S 29) x1 fun v4 => if ¬ v4 = 0 then (some S) else (dk_r 6 (S 27) x1 fun v5 => if ¬ v5 = x2 then (dk_r 6 (S 27) x1 fun v6 => dk_r 6 (S 3) x1 fun v7 => if ¬ v6 = v7 then (B_Scene_cross_45 n T  x1 x2 x3 S) else (dk_w S 28 6 x1 x3 fun S8 => B_Scene_cross_45 n T  x1 x2 x3 S8)) else (some S))
set_option maxRecDepth 20000 in
theorem kb_Scene_cross_0 {p : Program} {l : Launch} {e : Env} {s : State} {m : MethodId} {args : Array Value} {below : List Frame} {meth : Method} {c : Code} {g : dk_G} {A : Nat → Prop} {Q : State → Prop} {ad : Nat → Nat} {T : Nat} {n : Nat} {res : dk_S} (X : dk_X p s m args meth c b_Scene_cross 4 R_Scene (none) g A) (hR : dk_Rv p l e rm_Scene_cross s m args below meth c g A Q 4 b_Scene_cross (none) (wC g ad T) res)  {x1 : Int32} {x2 : Int32} {x3 : Int32} {S : dk_S}  (hF : B_Scene_cross_0 n T  x1 x2 x3 S = some res) : dk_J p l e rm_Scene_cross s m args below meth c g A Q 4 0 0 0 [(0, .ref (ad 18)), (1, .int x1), (2, .int x2), (3, .int x3)] [] (wC g ad T S) := by
  unfold B_Scene_cross_0 at hF
  refine dk_aload_n (k := 0) (i := 0) X 0 rfl rfl d_Scene_cross_0 ?_
  refine dk_get X q_Scene 18 15 (by decide) (oC_Scene g ad T S) rfl f_Scene_43 d_Scene_cross_1 ?_
  refine dk_iload_n (k := 1) (i := 1) X 1 rfl rfl d_Scene_cross_4 ?_
  refine dk_zald X 29 (aC_29 g ad T S) d_Scene_cross_5 hF (fun v4 hF => ?_)
  refine dk_if_ne (tgt := 19) X (by decide) d_Scene_cross_6 hF (fun hF => ?_) (fun hF => ?_)
  · exact dk_retv hR hF d_Scene_cross_19
  · refine dk_aload_n (k := 0) (i := 0) X 0 rfl rfl d_Scene_cross_9 ?_
    refine dk_get X q_Scene 18 13 (by decide) (oC_Scene g ad T S) rfl f_Scene_37 d_Scene_cross_10 ?_
    refine dk_iload_n (k := 1) (i := 1) X 1 rfl rfl d_Scene_cross_13 ?_
    refine dk_iald X 27 (aC_27 g ad T S) d_Scene_cross_14 hF (fun v5 hF => ?_)
    refine dk_iload_n (k := 2) (i := 2) X 2 rfl rfl d_Scene_cross_15 ?_
    refine dk_icmp_ne (tgt := 20) X (by decide) d_Scene_cross_16 hF (fun hF => ?_) (fun hF => ?_)
    · refine dk_aload_n (k := 0) (i := 0) X 0 rfl rfl d_Scene_cross_20 ?_
      refine dk_get X q_Scene 18 13 (by decide) (oC_Scene g ad T S) rfl f_Scene_37 d_Scene_cross_21 ?_
      refine dk_iload_n (k := 1) (i := 1) X 1 rfl rfl d_Scene_cross_24 ?_
      refine dk_iald X 27 (aC_27 g ad T S) d_Scene_cross_25 hF (fun v6 hF => ?_)
      refine dk_aload_n (k := 0) (i := 0) X 0 rfl rfl d_Scene_cross_26 ?_
      refine dk_get X q_Scene 18 0 (by decide) (oC_Scene g ad T S) rfl f_Scene_46 d_Scene_cross_27 ?_
      refine dk_get X q_Land 1 1 (by decide) (oC_Land g ad T S) rfl f_Scene_83 d_Scene_cross_30 ?_
      refine dk_iload_n (k := 1) (i := 1) X 1 rfl rfl d_Scene_cross_33 ?_
      refine dk_iald X 3 (aC_3 g ad T S) d_Scene_cross_34 hF (fun v7 hF => ?_)
      refine dk_icmp_ne (tgt := 45) X (by decide) d_Scene_cross_35 hF (fun hF => ?_) (fun hF => ?_)
      · exact (kb_Scene_cross_45 (n := n) X hR   hF)
      · refine dk_aload_n (k := 0) (i := 0) X 0 rfl rfl d_Scene_cross_38 ?_
        refine dk_get X q_Scene 18 14 (by decide) (oC_Scene g ad T S) rfl f_Scene_40 d_Scene_cross_39 ?_
        refine dk_iload_n (k := 1) (i := 1) X 1 rfl rfl d_Scene_cross_42 ?_
        refine dk_iload_n (k := 3) (i := 3) X 3 rfl rfl d_Scene_cross_43 ?_
        refine dk_iast X 28 (aC_28 g ad T S) (sC_28 g ad T S _ _) d_Scene_cross_44 hF (fun S8 hF => ?_)
        exact (kb_Scene_cross_45 (n := n) X hR   hF)
    · exact dk_retv hR hF d_Scene_cross_19
def F_Scene_cross (n T : Nat) (x1 : Int32) (x2 : Int32) (x3 : Int32) (S : dk_S) : Option dk_S := B_Scene_cross_0 n T x1 x2 x3 S
theorem c_Scene_cross (l : Launch) (g : dk_G) (ad : Nat → Nat) (T n : Nat) (x1 : Int32) (x2 : Int32) (x3 : Int32)  (S : dk_S) : dk_Mv l g y_Scene_cross b_Scene_cross 4 rm_Scene_cross (none) [.ref (ad 18), .int x1, .int x2, .int x3] (wC g ad T) S (F_Scene_cross n T x1 x2 x3 S) := dk_enterv (by decide) rfl (Nat.le_of_ble_eq_true rfl) (fun p e s m args below meth c A Q res hF X hR => (kb_Scene_cross_0 (n := n) X hR  hF))
abbrev b_Scene_isHoldOf : ByteArray := prog_7_method_15_code
def y_Scene_isHoldOf : MethodName := ⟨R_Scene, "isHoldOf", "(II)Z"⟩
theorem d_Scene_isHoldOf_0 : decode b_Scene_isHoldOf 0 = .ok (.aload_n 0, 1) := by decide +kernel
theorem d_Scene_isHoldOf_1 : decode b_Scene_isHoldOf 1 = .ok (.getfield 9, 3) := by decide +kernel
theorem d_Scene_isHoldOf_4 : decode b_Scene_isHoldOf 4 = .ok (.iload_n 1, 1) := by decide +kernel
theorem d_Scene_isHoldOf_5 : decode b_Scene_isHoldOf 5 = .ok (.iaload, 1) := by decide +kernel
theorem d_Scene_isHoldOf_6 : decode b_Scene_isHoldOf 6 = .ok (.iconst 3, 1) := by decide +kernel
theorem d_Scene_isHoldOf_7 : decode b_Scene_isHoldOf 7 = .ok (.if_icmp .ne 17, 3) := by decide +kernel
theorem d_Scene_isHoldOf_10 : decode b_Scene_isHoldOf 10 = .ok (.aload_n 0, 1) := by decide +kernel
theorem d_Scene_isHoldOf_11 : decode b_Scene_isHoldOf 11 = .ok (.getfield 18, 3) := by decide +kernel
theorem d_Scene_isHoldOf_14 : decode b_Scene_isHoldOf 14 = .ok (.iload_n 1, 1) := by decide +kernel
theorem d_Scene_isHoldOf_15 : decode b_Scene_isHoldOf 15 = .ok (.iaload, 1) := by decide +kernel
theorem d_Scene_isHoldOf_16 : decode b_Scene_isHoldOf 16 = .ok (.iload_n 2, 1) := by decide +kernel
theorem d_Scene_isHoldOf_17 : decode b_Scene_isHoldOf 17 = .ok (.if_icmp .ne 7, 3) := by decide +kernel
theorem d_Scene_isHoldOf_20 : decode b_Scene_isHoldOf 20 = .ok (.iconst 1, 1) := by decide +kernel
theorem d_Scene_isHoldOf_21 : decode b_Scene_isHoldOf 21 = .ok (.goto 4, 3) := by decide +kernel
theorem d_Scene_isHoldOf_24 : decode b_Scene_isHoldOf 24 = .ok (.iconst 0, 1) := by decide +kernel
theorem d_Scene_isHoldOf_25 : decode b_Scene_isHoldOf 25 = .ok (.ireturn, 1) := by decide +kernel
theorem v_Scene_isHoldOf : dk_Yv y_Scene_isHoldOf b_Scene_isHoldOf 3 (some .boolean) 2 := ⟨dk_in (List.mem_of_getElem? (i := 733) (by decide +kernel)) rfl, dk_in (List.mem_of_getElem? (i := 25) (by decide +kernel)) rfl, dk_in (List.mem_of_getElem? (i := 72) (by decide +kernel)) rfl, dk_in (List.mem_of_getElem? (i := 734) (by decide +kernel)) rfl, by decide +kernel, by decide +kernel, by decide +kernel⟩
abbrev rm_Scene_isHoldOf : Room := { frames := 0, cells := 0, slots := 0, locals := 0 }
def B_Scene_isHoldOf_0 (n T : Nat)  (x1 : Int32) (x2 : Int32) (S : dk_S) : Option (Int32 × dk_S) :=
  dk_r 44 (S 19) x1 fun v1 => if ¬ v1 = (3 : Int32) then (dk_b (0 : Int32) (some ((0 : Int32), S))) else (dk_r 44 (S 21) x1 fun v2 => if ¬ v2 = x2 then (dk_b (0 : Int32) (some ((0 : Int32), S))) else (dk_b (1 : Int32) (some ((1 : Int32), S))))
set_option maxRecDepth 20000 in
theorem kb_Scene_isHoldOf_0 {p : Program} {l : Launch} {e : Env} {s : State} {m : MethodId} {args : Array Value} {below : List Frame} {meth : Method} {c : Code} {g : dk_G} {A : Nat → Prop} {Q : State → Prop} {ad : Nat → Nat} {T : Nat} {n : Nat} {res : (Int32 × dk_S)} (X : dk_X p s m args meth c b_Scene_isHoldOf 3 R_Scene (some .boolean) g A) (hR : dk_Ri p l e rm_Scene_isHoldOf s m args below meth c g A Q 3 b_Scene_isHoldOf (some .boolean) (wC g ad T) res)  {x1 : Int32} {x2 : Int32} {S : dk_S}  (hF : B_Scene_isHoldOf_0 n T  x1 x2 S = some res) : dk_J p l e rm_Scene_isHoldOf s m args below meth c g A Q 3 0 0 0 [(0, .ref (ad 18)), (1, .int x1), (2, .int x2)] [] (wC g ad T S) := by
  unfold B_Scene_isHoldOf_0 at hF
  refine dk_aload_n (k := 0) (i := 0) X 0 rfl rfl d_Scene_isHoldOf_0 ?_
  refine dk_get X q_Scene 18 3 (by decide) (oC_Scene g ad T S) rfl f_Scene_9 d_Scene_isHoldOf_1 ?_
  refine dk_iload_n (k := 1) (i := 1) X 1 rfl rfl d_Scene_isHoldOf_4 ?_
  refine dk_iald X 19 (aC_19 g ad T S) d_Scene_isHoldOf_5 hF (fun v1 hF => ?_)
  refine dk_iconst (v := 3) X (by decide) d_Scene_isHoldOf_6 ?_
  refine dk_icmp_ne (tgt := 24) X (by decide) d_Scene_isHoldOf_7 hF (fun hF => ?_) (fun hF => ?_)
  · refine dk_iconst (v := 0) X (by decide) d_Scene_isHoldOf_24 ?_
    exact dk_retz hR hF d_Scene_isHoldOf_25
  · refine dk_aload_n (k := 0) (i := 0) X 0 rfl rfl d_Scene_isHoldOf_10 ?_
    refine dk_get X q_Scene 18 5 (by decide) (oC_Scene g ad T S) rfl f_Scene_18 d_Scene_isHoldOf_11 ?_
    refine dk_iload_n (k := 1) (i := 1) X 1 rfl rfl d_Scene_isHoldOf_14 ?_
    refine dk_iald X 21 (aC_21 g ad T S) d_Scene_isHoldOf_15 hF (fun v2 hF => ?_)
    refine dk_iload_n (k := 2) (i := 2) X 2 rfl rfl d_Scene_isHoldOf_16 ?_
    refine dk_icmp_ne (tgt := 24) X (by decide) d_Scene_isHoldOf_17 hF (fun hF => ?_) (fun hF => ?_)
    · refine dk_iconst (v := 0) X (by decide) d_Scene_isHoldOf_24 ?_
      exact dk_retz hR hF d_Scene_isHoldOf_25
    · refine dk_iconst (v := 1) X (by decide) d_Scene_isHoldOf_20 ?_
      refine dk_goto (tgt := 25) X (by decide) d_Scene_isHoldOf_21 ?_
      exact dk_retz hR hF d_Scene_isHoldOf_25
def F_Scene_isHoldOf (n T : Nat) (x1 : Int32) (x2 : Int32) (S : dk_S) : Option (Int32 × dk_S) := B_Scene_isHoldOf_0 n T x1 x2 S
theorem c_Scene_isHoldOf (l : Launch) (g : dk_G) (ad : Nat → Nat) (T n : Nat) (x1 : Int32) (x2 : Int32)  (S : dk_S) : dk_Mi l g y_Scene_isHoldOf b_Scene_isHoldOf 3 rm_Scene_isHoldOf (some .boolean) [.ref (ad 18), .int x1, .int x2] (wC g ad T) S (F_Scene_isHoldOf n T x1 x2 S) := dk_enteri (by decide) (Nat.le_of_ble_eq_true rfl) (fun p e s m args below meth c A Q res hF X hR => (kb_Scene_isHoldOf_0 (n := n) X hR  hF))
abbrev b_Scene_give : ByteArray := prog_7_method_14_code
def y_Scene_give : MethodName := ⟨R_Scene, "give", "(III)V"⟩
theorem d_Scene_give_0 : decode b_Scene_give 0 = .ok (.iconst 0, 1) := by decide +kernel
theorem d_Scene_give_1 : decode b_Scene_give 1 = .ok (.istore 4, 2) := by decide +kernel
theorem d_Scene_give_3 : decode b_Scene_give 3 = .ok (.iload 4, 2) := by decide +kernel
theorem d_Scene_give_5 : decode b_Scene_give 5 = .ok (.aload_n 0, 1) := by decide +kernel
theorem d_Scene_give_6 : decode b_Scene_give 6 = .ok (.getfield 58, 3) := by decide +kernel
theorem d_Scene_give_9 : decode b_Scene_give 9 = .ok (.if_icmp .ge 38, 3) := by decide +kernel
theorem d_Scene_give_12 : decode b_Scene_give 12 = .ok (.aload_n 0, 1) := by decide +kernel
theorem d_Scene_give_13 : decode b_Scene_give 13 = .ok (.iload 4, 2) := by decide +kernel
theorem d_Scene_give_15 : decode b_Scene_give 15 = .ok (.iload_n 1, 1) := by decide +kernel
theorem d_Scene_give_16 : decode b_Scene_give 16 = .ok (.invokevirtual 146, 3) := by decide +kernel
theorem d_Scene_give_19 : decode b_Scene_give 19 = .ok (.ifCond .eq 22, 3) := by decide +kernel
theorem d_Scene_give_22 : decode b_Scene_give 22 = .ok (.aload_n 0, 1) := by decide +kernel
theorem d_Scene_give_23 : decode b_Scene_give 23 = .ok (.getfield 15, 3) := by decide +kernel
theorem d_Scene_give_26 : decode b_Scene_give 26 = .ok (.iload 4, 2) := by decide +kernel
theorem d_Scene_give_28 : decode b_Scene_give 28 = .ok (.iaload, 1) := by decide +kernel
theorem d_Scene_give_29 : decode b_Scene_give 29 = .ok (.iload_n 2, 1) := by decide +kernel
theorem d_Scene_give_30 : decode b_Scene_give 30 = .ok (.if_icmp .ne 11, 3) := by decide +kernel
theorem d_Scene_give_33 : decode b_Scene_give 33 = .ok (.aload_n 0, 1) := by decide +kernel
theorem d_Scene_give_34 : decode b_Scene_give 34 = .ok (.getfield 15, 3) := by decide +kernel
theorem d_Scene_give_37 : decode b_Scene_give 37 = .ok (.iload 4, 2) := by decide +kernel
theorem d_Scene_give_39 : decode b_Scene_give 39 = .ok (.iload_n 3, 1) := by decide +kernel
theorem d_Scene_give_40 : decode b_Scene_give 40 = .ok (.iastore, 1) := by decide +kernel
theorem d_Scene_give_41 : decode b_Scene_give 41 = .ok (.iinc 4 1, 3) := by decide +kernel
theorem d_Scene_give_44 : decode b_Scene_give 44 = .ok (.goto (-41), 3) := by decide +kernel
theorem d_Scene_give_47 : decode b_Scene_give 47 = .ok (.return_, 1) := by decide +kernel
theorem v_Scene_give : dk_Yv y_Scene_give b_Scene_give 5 (none) 3 := ⟨dk_in (List.mem_of_getElem? (i := 737) (by decide +kernel)) rfl, dk_in (List.mem_of_getElem? (i := 26) (by decide +kernel)) rfl, dk_in (List.mem_of_getElem? (i := 72) (by decide +kernel)) rfl, dk_in (List.mem_of_getElem? (i := 738) (by decide +kernel)) rfl, by decide +kernel, by decide +kernel, by decide +kernel⟩
abbrev rm_Scene_give : Room := { frames := 1, cells := 0, slots := 0, locals := 22 }
theorem m_Scene_146 : Cond.methodLink R_Scene 146 y_Scene_isHoldOf ∈ dk_tb := dk_in (List.mem_of_getElem? (i := 731) (by decide +kernel)) rfl
def B_Scene_give_41 (n T : Nat) (k3 : Int32 → Int32 → Int32 → Int32 → dk_S → Option dk_S) (x1 : Int32) (x2 : Int32) (x3 : Int32) (x4 : Int32) (S : dk_S) : Option dk_S :=
  k3 x1 x2 x3 (x4 + (1 : Int32)) S
set_option maxRecDepth 20000 in
theorem kb_Scene_give_41 {p : Program} {l : Launch} {e : Env} {s : State} {m : MethodId} {args : Array Value} {below : List Frame} {meth : Method} {c : Code} {g : dk_G} {A : Nat → Prop} {Q : State → Prop} {ad : Nat → Nat} {T : Nat} {n : Nat} {res : dk_S} (X : dk_X p s m args meth c b_Scene_give 5 R_Scene (none) g A) (hR : dk_Rv p l e rm_Scene_give s m args below meth c g A Q 5 b_Scene_give (none) (wC g ad T) res) {k3 : Int32 → Int32 → Int32 → Int32 → dk_S → Option dk_S} (hk3 : ∀ (x1 : Int32) (x2 : Int32) (x3 : Int32) (x4 : Int32)  (S : dk_S), k3 x1 x2 x3 x4 S = some res → dk_J p l e rm_Scene_give s m args below meth c g A Q 5 0 0 3 [(0, .ref (ad 18)), (1, .int x1), (2, .int x2), (3, .int x3), (4, .int x4)] [] (wC g ad T S)) {x1 : Int32} {x2 : Int32} {x3 : Int32} {x4 : Int32} {S : dk_S}  (hF : B_Scene_give_41 n T k3 x1 x2 x3 x4 S = some res) : dk_J p l e rm_Scene_give s m args below meth c g A Q 5 0 0 41 [(0, .ref (ad 18)), (1, .int x1), (2, .int x2), (3, .int x3), (4, .int x4)] [] (wC g ad T S) := by
  unfold B_Scene_give_41 at hF
  refine dk_iinc (i := 4) (v := (x4 + (1 : Int32))) (lv' := [(4, .int (x4 + (1 : Int32))), (0, .ref (ad 18)), (1, .int x1), (2, .int x2), (3, .int x3)]) X 4 rfl (dk_ii _ (by decide)) (by decide) rfl d_Scene_give_41 ?_
  refine dk_goto (tgt := 3) X (by decide) d_Scene_give_44 ?_
  exact dk_sub [1, 2, 3, 4, 0] rfl (hk3 x1 x2 x3 (x4 + (1 : Int32)) S hF)
def B_Scene_give_3b (n T : Nat) (k3 : Int32 → Int32 → Int32 → Int32 → dk_S → Option dk_S) (x1 : Int32) (x2 : Int32) (x3 : Int32) (x4 : Int32) (S : dk_S) : Option dk_S :=
  if (S 115 0) ≤ x4 then (some S) else (dk_c (F_Scene_isHoldOf n T x4 x1 S) fun r2 S1 => if r2 = 0 then (B_Scene_give_41 n T k3 x1 x2 x3 x4 S1) else (dk_r 44 (S1 20) x4 fun v3 => if ¬ v3 = x2 then (B_Scene_give_41 n T k3 x1 x2 x3 x4 S1) else (dk_w S1 20 44 x4 x3 fun S4 => B_Scene_give_41 n T k3 x1 x2 x3 x4 S4)))
set_option maxRecDepth 20000 in
theorem kb_Scene_give_3b {p : Program} {l : Launch} {e : Env} {s : State} {m : MethodId} {args : Array Value} {below : List Frame} {meth : Method} {c : Code} {g : dk_G} {A : Nat → Prop} {Q : State → Prop} {ad : Nat → Nat} {T : Nat} {n : Nat} {res : dk_S} (X : dk_X p s m args meth c b_Scene_give 5 R_Scene (none) g A) (hR : dk_Rv p l e rm_Scene_give s m args below meth c g A Q 5 b_Scene_give (none) (wC g ad T) res) {k3 : Int32 → Int32 → Int32 → Int32 → dk_S → Option dk_S} (hk3 : ∀ (x1 : Int32) (x2 : Int32) (x3 : Int32) (x4 : Int32)  (S : dk_S), k3 x1 x2 x3 x4 S = some res → dk_J p l e rm_Scene_give s m args below meth c g A Q 5 0 0 3 [(0, .ref (ad 18)), (1, .int x1), (2, .int x2), (3, .int x3), (4, .int x4)] [] (wC g ad T S)) {x1 : Int32} {x2 : Int32} {x3 : Int32} {x4 : Int32} {S : dk_S}  (hF : B_Scene_give_3b n T k3 x1 x2 x3 x4 S = some res) : dk_J p l e rm_Scene_give s m args below meth c g A Q 5 0 0 3 [(0, .ref (ad 18)), (1, .int x1), (2, .int x2), (3, .int x3), (4, .int x4)] [] (wC g ad T S) := by
  unfold B_Scene_give_3b at hF
  refine dk_iload (i := 4) X 4 rfl d_Scene_give_3 ?_
  refine dk_aload_n (k := 0) (i := 0) X 0 rfl rfl d_Scene_give_5 ?_
  refine dk_get X q_Scene 18 11 (by decide) (oC_Scene g ad T S) rfl f_Scene_58 d_Scene_give_6 ?_
  refine dk_icmp_ge (tgt := 47) X (by decide) d_Scene_give_9 hF (fun hF => ?_) (fun hF => ?_)
  · exact dk_retv hR hF d_Scene_give_47
  · refine dk_aload_n (k := 0) (i := 0) X 0 rfl rfl d_Scene_give_12 ?_
    refine dk_iload (i := 4) X 4 rfl d_Scene_give_13 ?_
    refine dk_iload_n (k := 1) (i := 1) X 1 rfl rfl d_Scene_give_15 ?_
    refine dk_callVi X v_Scene_isHoldOf [.int x4, .int x1] (c_Scene_isHoldOf l g ad T n x4 x1 S) 18 (oC_Scene g ad T S) rfl rfl m_Scene_146 rfl rfl ⟨rfl, rfl, Nat.le_of_ble_eq_true rfl, Nat.le_of_ble_eq_true rfl, Nat.le_refl _, Nat.le_refl _⟩ (Nat.le_of_ble_eq_true rfl) d_Scene_give_16 hF (fun r2 S1 hF => ?_)
    refine dk_if_eq (tgt := 41) X (by decide) d_Scene_give_19 hF (fun hF => ?_) (fun hF => ?_)
    · exact (kb_Scene_give_41 (n := n) X hR hk3  hF)
    · refine dk_aload_n (k := 0) (i := 0) X 0 rfl rfl d_Scene_give_22 ?_
      refine dk_get X q_Scene 18 4 (by decide) (oC_Scene g ad T S1) rfl f_Scene_15 d_Scene_give_23 ?_
      refine dk_iload (i := 4) X 4 rfl d_Scene_give_26 ?_
      refine dk_iald X 20 (aC_20 g ad T S1) d_Scene_give_28 hF (fun v3 hF => ?_)
      refine dk_iload_n (k := 2) (i := 2) X 2 rfl rfl d_Scene_give_29 ?_
      refine dk_icmp_ne (tgt := 41) X (by decide) d_Scene_give_30 hF (fun hF => ?_) (fun hF => ?_)
      · exact (kb_Scene_give_41 (n := n) X hR hk3  hF)
      · refine dk_aload_n (k := 0) (i := 0) X 0 rfl rfl d_Scene_give_33 ?_
        refine dk_get X q_Scene 18 4 (by decide) (oC_Scene g ad T S1) rfl f_Scene_15 d_Scene_give_34 ?_
        refine dk_iload (i := 4) X 4 rfl d_Scene_give_37 ?_
        refine dk_iload_n (k := 3) (i := 3) X 3 rfl rfl d_Scene_give_39 ?_
        refine dk_iast X 20 (aC_20 g ad T S1) (sC_20 g ad T S1 _ _) d_Scene_give_40 hF (fun S4 hF => ?_)
        exact (kb_Scene_give_41 (n := n) X hR hk3  hF)
def B_Scene_give_3 (n T : Nat)  : Nat → Int32 → Int32 → Int32 → Int32 → dk_S → Option dk_S
  | 0 => fun _ _ _ _ _ => none
  | q + 1 => fun x1 x2 x3 x4 S => B_Scene_give_3b n T (fun x1 x2 x3 x4 S => B_Scene_give_3 n T  q x1 x2 x3 x4 S) x1 x2 x3 x4 S
theorem kb_Scene_give_3 {p : Program} {l : Launch} {e : Env} {s : State} {m : MethodId} {args : Array Value} {below : List Frame} {meth : Method} {c : Code} {g : dk_G} {A : Nat → Prop} {Q : State → Prop} {ad : Nat → Nat} {T : Nat} {n : Nat} {res : dk_S} (X : dk_X p s m args meth c b_Scene_give 5 R_Scene (none) g A) (hR : dk_Rv p l e rm_Scene_give s m args below meth c g A Q 5 b_Scene_give (none) (wC g ad T) res)  : ∀ (q : Nat) (x1 : Int32) (x2 : Int32) (x3 : Int32) (x4 : Int32)  (S : dk_S), B_Scene_give_3 n T  q x1 x2 x3 x4 S = some res → dk_J p l e rm_Scene_give s m args below meth c g A Q 5 0 0 3 [(0, .ref (ad 18)), (1, .int x1), (2, .int x2), (3, .int x3), (4, .int x4)] [] (wC g ad T S) := by
  intro q
  induction q with
  | zero => intro x1 x2 x3 x4  S hF; cases hF
  | succ q ih => intro x1 x2 x3 x4  S hF; exact kb_Scene_give_3b (n := n) X hR ih  hF
def B_Scene_give_0 (n T : Nat)  (x1 : Int32) (x2 : Int32) (x3 : Int32) (S : dk_S) : Option dk_S :=
  B_Scene_give_3 n T  n x1 x2 x3 (0 : Int32) S
set_option maxRecDepth 20000 in
theorem kb_Scene_give_0 {p : Program} {l : Launch} {e : Env} {s : State} {m : MethodId} {args : Array Value} {below : List Frame} {meth : Method} {c : Code} {g : dk_G} {A : Nat → Prop} {Q : State → Prop} {ad : Nat → Nat} {T : Nat} {n : Nat} {res : dk_S} (X : dk_X p s m args meth c b_Scene_give 5 R_Scene (none) g A) (hR : dk_Rv p l e rm_Scene_give s m args below meth c g A Q 5 b_Scene_give (none) (wC g ad T) res)  {x1 : Int32} {x2 : Int32} {x3 : Int32} {S : dk_S}  (hF : B_Scene_give_0 n T  x1 x2 x3 S = some res) : dk_J p l e rm_Scene_give s m args below meth c g A Q 5 0 0 0 [(0, .ref (ad 18)), (1, .int x1), (2, .int x2), (3, .int x3)] [] (wC g ad T S) := by
  unfold B_Scene_give_0 at hF
  refine dk_iconst (v := 0) X (by decide) d_Scene_give_0 ?_
  refine dk_istore (i := 4) (lv' := [(4, .int (0 : Int32)), (0, .ref (ad 18)), (1, .int x1), (2, .int x2), (3, .int x3)]) X (by decide) rfl d_Scene_give_1 ?_
  exact dk_sub [1, 2, 3, 4, 0] rfl (kb_Scene_give_3 (n := n) X hR  n x1 x2 x3 (0 : Int32) S hF)
def F_Scene_give (n T : Nat) (x1 : Int32) (x2 : Int32) (x3 : Int32) (S : dk_S) : Option dk_S := B_Scene_give_0 n T x1 x2 x3 S
theorem c_Scene_give (l : Launch) (g : dk_G) (ad : Nat → Nat) (T n : Nat) (x1 : Int32) (x2 : Int32) (x3 : Int32)  (S : dk_S) : dk_Mv l g y_Scene_give b_Scene_give 5 rm_Scene_give (none) [.ref (ad 18), .int x1, .int x2, .int x3] (wC g ad T) S (F_Scene_give n T x1 x2 x3 S) := dk_enterv (by decide) rfl (Nat.le_of_ble_eq_true rfl) (fun p e s m args below meth c A Q res hF X hR => (kb_Scene_give_0 (n := n) X hR  hF))
abbrev b_Scene_yields : ByteArray := prog_7_method_16_code
def y_Scene_yields : MethodName := ⟨R_Scene, "yields", "(I)Z"⟩
theorem d_Scene_yields_0 : decode b_Scene_yields 0 = .ok (.aload_n 0, 1) := by decide +kernel
theorem d_Scene_yields_1 : decode b_Scene_yields 1 = .ok (.getfield 9, 3) := by decide +kernel
theorem d_Scene_yields_4 : decode b_Scene_yields 4 = .ok (.iload_n 1, 1) := by decide +kernel
theorem d_Scene_yields_5 : decode b_Scene_yields 5 = .ok (.iaload, 1) := by decide +kernel
theorem d_Scene_yields_6 : decode b_Scene_yields 6 = .ok (.ifCond .eq 23, 3) := by decide +kernel
theorem d_Scene_yields_9 : decode b_Scene_yields 9 = .ok (.aload_n 0, 1) := by decide +kernel
theorem d_Scene_yields_10 : decode b_Scene_yields 10 = .ok (.getfield 9, 3) := by decide +kernel
theorem d_Scene_yields_13 : decode b_Scene_yields 13 = .ok (.iload_n 1, 1) := by decide +kernel
theorem d_Scene_yields_14 : decode b_Scene_yields 14 = .ok (.iaload, 1) := by decide +kernel
theorem d_Scene_yields_15 : decode b_Scene_yields 15 = .ok (.iconst 1, 1) := by decide +kernel
theorem d_Scene_yields_16 : decode b_Scene_yields 16 = .ok (.if_icmp .eq 13, 3) := by decide +kernel
theorem d_Scene_yields_19 : decode b_Scene_yields 19 = .ok (.aload_n 0, 1) := by decide +kernel
theorem d_Scene_yields_20 : decode b_Scene_yields 20 = .ok (.getfield 9, 3) := by decide +kernel
theorem d_Scene_yields_23 : decode b_Scene_yields 23 = .ok (.iload_n 1, 1) := by decide +kernel
theorem d_Scene_yields_24 : decode b_Scene_yields 24 = .ok (.iaload, 1) := by decide +kernel
theorem d_Scene_yields_25 : decode b_Scene_yields 25 = .ok (.iconst 2, 1) := by decide +kernel
theorem d_Scene_yields_26 : decode b_Scene_yields 26 = .ok (.if_icmp .ne 7, 3) := by decide +kernel
theorem d_Scene_yields_29 : decode b_Scene_yields 29 = .ok (.iconst 1, 1) := by decide +kernel
theorem d_Scene_yields_30 : decode b_Scene_yields 30 = .ok (.goto 4, 3) := by decide +kernel
theorem d_Scene_yields_33 : decode b_Scene_yields 33 = .ok (.iconst 0, 1) := by decide +kernel
theorem d_Scene_yields_34 : decode b_Scene_yields 34 = .ok (.ireturn, 1) := by decide +kernel
theorem v_Scene_yields : dk_Yv y_Scene_yields b_Scene_yields 2 (some .boolean) 1 := ⟨dk_in (List.mem_of_getElem? (i := 725) (by decide +kernel)) rfl, dk_in (List.mem_of_getElem? (i := 23) (by decide +kernel)) rfl, dk_in (List.mem_of_getElem? (i := 72) (by decide +kernel)) rfl, dk_in (List.mem_of_getElem? (i := 726) (by decide +kernel)) rfl, by decide +kernel, by decide +kernel, by decide +kernel⟩
abbrev rm_Scene_yields : Room := { frames := 0, cells := 0, slots := 0, locals := 0 }
def B_Scene_yields_0 (n T : Nat)  (x1 : Int32) (S : dk_S) : Option (Int32 × dk_S) :=
  dk_r 44 (S 19) x1 fun v1 => if v1 = 0 then (dk_b (1 : Int32) (some ((1 : Int32), S))) else (dk_r 44 (S 19) x1 fun v2 => if v2 = (1 : Int32) then (dk_b (1 : Int32) (some ((1 : Int32), S))) else (dk_r 44 (S 19) x1 fun v3 => if ¬ v3 = (2 : Int32) then (dk_b (0 : Int32) (some ((0 : Int32), S))) else (dk_b (1 : Int32) (some ((1 : Int32), S)))))
set_option maxRecDepth 20000 in
theorem kb_Scene_yields_0 {p : Program} {l : Launch} {e : Env} {s : State} {m : MethodId} {args : Array Value} {below : List Frame} {meth : Method} {c : Code} {g : dk_G} {A : Nat → Prop} {Q : State → Prop} {ad : Nat → Nat} {T : Nat} {n : Nat} {res : (Int32 × dk_S)} (X : dk_X p s m args meth c b_Scene_yields 2 R_Scene (some .boolean) g A) (hR : dk_Ri p l e rm_Scene_yields s m args below meth c g A Q 2 b_Scene_yields (some .boolean) (wC g ad T) res)  {x1 : Int32} {S : dk_S}  (hF : B_Scene_yields_0 n T  x1 S = some res) : dk_J p l e rm_Scene_yields s m args below meth c g A Q 2 0 0 0 [(0, .ref (ad 18)), (1, .int x1)] [] (wC g ad T S) := by
  unfold B_Scene_yields_0 at hF
  refine dk_aload_n (k := 0) (i := 0) X 0 rfl rfl d_Scene_yields_0 ?_
  refine dk_get X q_Scene 18 3 (by decide) (oC_Scene g ad T S) rfl f_Scene_9 d_Scene_yields_1 ?_
  refine dk_iload_n (k := 1) (i := 1) X 1 rfl rfl d_Scene_yields_4 ?_
  refine dk_iald X 19 (aC_19 g ad T S) d_Scene_yields_5 hF (fun v1 hF => ?_)
  refine dk_if_eq (tgt := 29) X (by decide) d_Scene_yields_6 hF (fun hF => ?_) (fun hF => ?_)
  · refine dk_iconst (v := 1) X (by decide) d_Scene_yields_29 ?_
    refine dk_goto (tgt := 34) X (by decide) d_Scene_yields_30 ?_
    exact dk_retz hR hF d_Scene_yields_34
  · refine dk_aload_n (k := 0) (i := 0) X 0 rfl rfl d_Scene_yields_9 ?_
    refine dk_get X q_Scene 18 3 (by decide) (oC_Scene g ad T S) rfl f_Scene_9 d_Scene_yields_10 ?_
    refine dk_iload_n (k := 1) (i := 1) X 1 rfl rfl d_Scene_yields_13 ?_
    refine dk_iald X 19 (aC_19 g ad T S) d_Scene_yields_14 hF (fun v2 hF => ?_)
    refine dk_iconst (v := 1) X (by decide) d_Scene_yields_15 ?_
    refine dk_icmp_eq (tgt := 29) X (by decide) d_Scene_yields_16 hF (fun hF => ?_) (fun hF => ?_)
    · refine dk_iconst (v := 1) X (by decide) d_Scene_yields_29 ?_
      refine dk_goto (tgt := 34) X (by decide) d_Scene_yields_30 ?_
      exact dk_retz hR hF d_Scene_yields_34
    · refine dk_aload_n (k := 0) (i := 0) X 0 rfl rfl d_Scene_yields_19 ?_
      refine dk_get X q_Scene 18 3 (by decide) (oC_Scene g ad T S) rfl f_Scene_9 d_Scene_yields_20 ?_
      refine dk_iload_n (k := 1) (i := 1) X 1 rfl rfl d_Scene_yields_23 ?_
      refine dk_iald X 19 (aC_19 g ad T S) d_Scene_yields_24 hF (fun v3 hF => ?_)
      refine dk_iconst (v := 2) X (by decide) d_Scene_yields_25 ?_
      refine dk_icmp_ne (tgt := 33) X (by decide) d_Scene_yields_26 hF (fun hF => ?_) (fun hF => ?_)
      · refine dk_iconst (v := 0) X (by decide) d_Scene_yields_33 ?_
        exact dk_retz hR hF d_Scene_yields_34
      · refine dk_iconst (v := 1) X (by decide) d_Scene_yields_29 ?_
        refine dk_goto (tgt := 34) X (by decide) d_Scene_yields_30 ?_
        exact dk_retz hR hF d_Scene_yields_34
def F_Scene_yields (n T : Nat) (x1 : Int32) (S : dk_S) : Option (Int32 × dk_S) := B_Scene_yields_0 n T x1 S
theorem c_Scene_yields (l : Launch) (g : dk_G) (ad : Nat → Nat) (T n : Nat) (x1 : Int32)  (S : dk_S) : dk_Mi l g y_Scene_yields b_Scene_yields 2 rm_Scene_yields (some .boolean) [.ref (ad 18), .int x1] (wC g ad T) S (F_Scene_yields n T x1 S) := dk_enteri (by decide) (Nat.le_of_ble_eq_true rfl) (fun p e s m args below meth c A Q res hF X hR => (kb_Scene_yields_0 (n := n) X hR  hF))
abbrev b_Scene_kill : ByteArray := prog_7_method_12_code
def y_Scene_kill : MethodName := ⟨R_Scene, "kill", "(II)V"⟩
theorem d_Scene_kill_0 : decode b_Scene_kill 0 = .ok (.iconst 0, 1) := by decide +kernel
theorem d_Scene_kill_1 : decode b_Scene_kill 1 = .ok (.istore_n 3, 1) := by decide +kernel
theorem d_Scene_kill_2 : decode b_Scene_kill 2 = .ok (.iload_n 3, 1) := by decide +kernel
theorem d_Scene_kill_3 : decode b_Scene_kill 3 = .ok (.aload_n 0, 1) := by decide +kernel
theorem d_Scene_kill_4 : decode b_Scene_kill 4 = .ok (.getfield 58, 3) := by decide +kernel
theorem d_Scene_kill_7 : decode b_Scene_kill 7 = .ok (.if_icmp .ge 44, 3) := by decide +kernel
theorem d_Scene_kill_10 : decode b_Scene_kill 10 = .ok (.aload_n 0, 1) := by decide +kernel
theorem d_Scene_kill_11 : decode b_Scene_kill 11 = .ok (.getfield 18, 3) := by decide +kernel
theorem d_Scene_kill_14 : decode b_Scene_kill 14 = .ok (.iload_n 3, 1) := by decide +kernel
theorem d_Scene_kill_15 : decode b_Scene_kill 15 = .ok (.iaload, 1) := by decide +kernel
theorem d_Scene_kill_16 : decode b_Scene_kill 16 = .ok (.iload_n 1, 1) := by decide +kernel
theorem d_Scene_kill_17 : decode b_Scene_kill 17 = .ok (.if_icmp .ne 28, 3) := by decide +kernel
theorem d_Scene_kill_20 : decode b_Scene_kill 20 = .ok (.aload_n 0, 1) := by decide +kernel
theorem d_Scene_kill_21 : decode b_Scene_kill 21 = .ok (.getfield 15, 3) := by decide +kernel
theorem d_Scene_kill_24 : decode b_Scene_kill 24 = .ok (.iload_n 3, 1) := by decide +kernel
theorem d_Scene_kill_25 : decode b_Scene_kill 25 = .ok (.iaload, 1) := by decide +kernel
theorem d_Scene_kill_26 : decode b_Scene_kill 26 = .ok (.iload_n 2, 1) := by decide +kernel
theorem d_Scene_kill_27 : decode b_Scene_kill 27 = .ok (.if_icmp .eq 18, 3) := by decide +kernel
theorem d_Scene_kill_30 : decode b_Scene_kill 30 = .ok (.aload_n 0, 1) := by decide +kernel
theorem d_Scene_kill_31 : decode b_Scene_kill 31 = .ok (.iload_n 3, 1) := by decide +kernel
theorem d_Scene_kill_32 : decode b_Scene_kill 32 = .ok (.invokevirtual 143, 3) := by decide +kernel
theorem d_Scene_kill_35 : decode b_Scene_kill 35 = .ok (.ifCond .eq 10, 3) := by decide +kernel
theorem d_Scene_kill_38 : decode b_Scene_kill 38 = .ok (.aload_n 0, 1) := by decide +kernel
theorem d_Scene_kill_39 : decode b_Scene_kill 39 = .ok (.getfield 33, 3) := by decide +kernel
theorem d_Scene_kill_42 : decode b_Scene_kill 42 = .ok (.iload_n 3, 1) := by decide +kernel
theorem d_Scene_kill_43 : decode b_Scene_kill 43 = .ok (.iconst 1, 1) := by decide +kernel
theorem d_Scene_kill_44 : decode b_Scene_kill 44 = .ok (.bastore, 1) := by decide +kernel
theorem d_Scene_kill_45 : decode b_Scene_kill 45 = .ok (.iinc 3 1, 3) := by decide +kernel
theorem d_Scene_kill_48 : decode b_Scene_kill 48 = .ok (.goto (-46), 3) := by decide +kernel
theorem d_Scene_kill_51 : decode b_Scene_kill 51 = .ok (.aload_n 0, 1) := by decide +kernel
theorem d_Scene_kill_52 : decode b_Scene_kill 52 = .ok (.getfield 43, 3) := by decide +kernel
theorem d_Scene_kill_55 : decode b_Scene_kill 55 = .ok (.iload_n 1, 1) := by decide +kernel
theorem d_Scene_kill_56 : decode b_Scene_kill 56 = .ok (.iconst 1, 1) := by decide +kernel
theorem d_Scene_kill_57 : decode b_Scene_kill 57 = .ok (.bastore, 1) := by decide +kernel
theorem d_Scene_kill_58 : decode b_Scene_kill 58 = .ok (.return_, 1) := by decide +kernel
theorem v_Scene_kill : dk_Yv y_Scene_kill b_Scene_kill 4 (none) 2 := ⟨dk_in (List.mem_of_getElem? (i := 721) (by decide +kernel)) rfl, dk_in (List.mem_of_getElem? (i := 22) (by decide +kernel)) rfl, dk_in (List.mem_of_getElem? (i := 72) (by decide +kernel)) rfl, dk_in (List.mem_of_getElem? (i := 722) (by decide +kernel)) rfl, by decide +kernel, by decide +kernel, by decide +kernel⟩
abbrev rm_Scene_kill : Room := { frames := 1, cells := 0, slots := 0, locals := 21 }
theorem m_Scene_143 : Cond.methodLink R_Scene 143 y_Scene_yields ∈ dk_tb := dk_in (List.mem_of_getElem? (i := 723) (by decide +kernel)) rfl
def B_Scene_kill_45 (n T : Nat) (k2 : Int32 → Int32 → Int32 → dk_S → Option dk_S) (x1 : Int32) (x2 : Int32) (x3 : Int32) (S : dk_S) : Option dk_S :=
  k2 x1 x2 (x3 + (1 : Int32)) S
set_option maxRecDepth 20000 in
theorem kb_Scene_kill_45 {p : Program} {l : Launch} {e : Env} {s : State} {m : MethodId} {args : Array Value} {below : List Frame} {meth : Method} {c : Code} {g : dk_G} {A : Nat → Prop} {Q : State → Prop} {ad : Nat → Nat} {T : Nat} {n : Nat} {res : dk_S} (X : dk_X p s m args meth c b_Scene_kill 4 R_Scene (none) g A) (hR : dk_Rv p l e rm_Scene_kill s m args below meth c g A Q 4 b_Scene_kill (none) (wC g ad T) res) {k2 : Int32 → Int32 → Int32 → dk_S → Option dk_S} (hk2 : ∀ (x1 : Int32) (x2 : Int32) (x3 : Int32)  (S : dk_S), k2 x1 x2 x3 S = some res → dk_J p l e rm_Scene_kill s m args below meth c g A Q 4 0 0 2 [(0, .ref (ad 18)), (1, .int x1), (2, .int x2), (3, .int x3)] [] (wC g ad T S)) {x1 : Int32} {x2 : Int32} {x3 : Int32} {S : dk_S}  (hF : B_Scene_kill_45 n T k2 x1 x2 x3 S = some res) : dk_J p l e rm_Scene_kill s m args below meth c g A Q 4 0 0 45 [(0, .ref (ad 18)), (1, .int x1), (2, .int x2), (3, .int x3)] [] (wC g ad T S) := by
  unfold B_Scene_kill_45 at hF
  refine dk_iinc (i := 3) (v := (x3 + (1 : Int32))) (lv' := [(3, .int (x3 + (1 : Int32))), (0, .ref (ad 18)), (1, .int x1), (2, .int x2)]) X 3 rfl (dk_ii _ (by decide)) (by decide) rfl d_Scene_kill_45 ?_
  refine dk_goto (tgt := 2) X (by decide) d_Scene_kill_48 ?_
  exact dk_sub [1, 2, 3, 0] rfl (hk2 x1 x2 (x3 + (1 : Int32)) S hF)
def B_Scene_kill_2b (n T : Nat) (k2 : Int32 → Int32 → Int32 → dk_S → Option dk_S) (x1 : Int32) (x2 : Int32) (x3 : Int32) (S : dk_S) : Option dk_S :=
  if (S 115 0) ≤ x3 then (dk_w S 29 6 x1 (vp_nar .boolean (1 : Int32)) fun S1 => some S1) else (dk_r 44 (S 21) x3 fun v2 => if ¬ v2 = x1 then (B_Scene_kill_45 n T k2 x1 x2 x3 S) else (dk_r 44 (S 20) x3 fun v3 => if v3 = x2 then (B_Scene_kill_45 n T k2 x1 x2 x3 S) else (dk_c (F_Scene_yields n T x3 S) fun r5 S4 => if r5 = 0 then (B_Scene_kill_45 n T k2 x1 x2 x3 S4) else (dk_w S4 26 44 x3 (vp_nar .boolean (1 : Int32)) fun S6 => B_Scene_kill_45 n T k2 x1 x2 x3 S6))))
set_option maxRecDepth 20000 in
theorem kb_Scene_kill_2b {p : Program} {l : Launch} {e : Env} {s : State} {m : MethodId} {args : Array Value} {below : List Frame} {meth : Method} {c : Code} {g : dk_G} {A : Nat → Prop} {Q : State → Prop} {ad : Nat → Nat} {T : Nat} {n : Nat} {res : dk_S} (X : dk_X p s m args meth c b_Scene_kill 4 R_Scene (none) g A) (hR : dk_Rv p l e rm_Scene_kill s m args below meth c g A Q 4 b_Scene_kill (none) (wC g ad T) res) {k2 : Int32 → Int32 → Int32 → dk_S → Option dk_S} (hk2 : ∀ (x1 : Int32) (x2 : Int32) (x3 : Int32)  (S : dk_S), k2 x1 x2 x3 S = some res → dk_J p l e rm_Scene_kill s m args below meth c g A Q 4 0 0 2 [(0, .ref (ad 18)), (1, .int x1), (2, .int x2), (3, .int x3)] [] (wC g ad T S)) {x1 : Int32} {x2 : Int32} {x3 : Int32} {S : dk_S}  (hF : B_Scene_kill_2b n T k2 x1 x2 x3 S = some res) : dk_J p l e rm_Scene_kill s m args below meth c g A Q 4 0 0 2 [(0, .ref (ad 18)), (1, .int x1), (2, .int x2), (3, .int x3)] [] (wC g ad T S) := by
  unfold B_Scene_kill_2b at hF
  refine dk_iload_n (k := 3) (i := 3) X 3 rfl rfl d_Scene_kill_2 ?_
  refine dk_aload_n (k := 0) (i := 0) X 0 rfl rfl d_Scene_kill_3 ?_
  refine dk_get X q_Scene 18 11 (by decide) (oC_Scene g ad T S) rfl f_Scene_58 d_Scene_kill_4 ?_
  refine dk_icmp_ge (tgt := 51) X (by decide) d_Scene_kill_7 hF (fun hF => ?_) (fun hF => ?_)
  · refine dk_aload_n (k := 0) (i := 0) X 0 rfl rfl d_Scene_kill_51 ?_
    refine dk_get X q_Scene 18 15 (by decide) (oC_Scene g ad T S) rfl f_Scene_43 d_Scene_kill_52 ?_
    refine dk_iload_n (k := 1) (i := 1) X 1 rfl rfl d_Scene_kill_55 ?_
    refine dk_iconst (v := 1) X (by decide) d_Scene_kill_56 ?_
    refine dk_zast X 29 (aC_29 g ad T S) (sC_29 g ad T S _ _) d_Scene_kill_57 hF (fun S1 hF => ?_)
    exact dk_retv hR hF d_Scene_kill_58
  · refine dk_aload_n (k := 0) (i := 0) X 0 rfl rfl d_Scene_kill_10 ?_
    refine dk_get X q_Scene 18 5 (by decide) (oC_Scene g ad T S) rfl f_Scene_18 d_Scene_kill_11 ?_
    refine dk_iload_n (k := 3) (i := 3) X 3 rfl rfl d_Scene_kill_14 ?_
    refine dk_iald X 21 (aC_21 g ad T S) d_Scene_kill_15 hF (fun v2 hF => ?_)
    refine dk_iload_n (k := 1) (i := 1) X 1 rfl rfl d_Scene_kill_16 ?_
    refine dk_icmp_ne (tgt := 45) X (by decide) d_Scene_kill_17 hF (fun hF => ?_) (fun hF => ?_)
    · exact (kb_Scene_kill_45 (n := n) X hR hk2  hF)
    · refine dk_aload_n (k := 0) (i := 0) X 0 rfl rfl d_Scene_kill_20 ?_
      refine dk_get X q_Scene 18 4 (by decide) (oC_Scene g ad T S) rfl f_Scene_15 d_Scene_kill_21 ?_
      refine dk_iload_n (k := 3) (i := 3) X 3 rfl rfl d_Scene_kill_24 ?_
      refine dk_iald X 20 (aC_20 g ad T S) d_Scene_kill_25 hF (fun v3 hF => ?_)
      refine dk_iload_n (k := 2) (i := 2) X 2 rfl rfl d_Scene_kill_26 ?_
      refine dk_icmp_eq (tgt := 45) X (by decide) d_Scene_kill_27 hF (fun hF => ?_) (fun hF => ?_)
      · exact (kb_Scene_kill_45 (n := n) X hR hk2  hF)
      · refine dk_aload_n (k := 0) (i := 0) X 0 rfl rfl d_Scene_kill_30 ?_
        refine dk_iload_n (k := 3) (i := 3) X 3 rfl rfl d_Scene_kill_31 ?_
        refine dk_callVi X v_Scene_yields [.int x3] (c_Scene_yields l g ad T n x3 S) 18 (oC_Scene g ad T S) rfl rfl m_Scene_143 rfl rfl ⟨rfl, rfl, Nat.le_of_ble_eq_true rfl, Nat.le_of_ble_eq_true rfl, Nat.le_refl _, Nat.le_refl _⟩ (Nat.le_of_ble_eq_true rfl) d_Scene_kill_32 hF (fun r5 S4 hF => ?_)
        refine dk_if_eq (tgt := 45) X (by decide) d_Scene_kill_35 hF (fun hF => ?_) (fun hF => ?_)
        · exact (kb_Scene_kill_45 (n := n) X hR hk2  hF)
        · refine dk_aload_n (k := 0) (i := 0) X 0 rfl rfl d_Scene_kill_38 ?_
          refine dk_get X q_Scene 18 10 (by decide) (oC_Scene g ad T S4) rfl f_Scene_33 d_Scene_kill_39 ?_
          refine dk_iload_n (k := 3) (i := 3) X 3 rfl rfl d_Scene_kill_42 ?_
          refine dk_iconst (v := 1) X (by decide) d_Scene_kill_43 ?_
          refine dk_zast X 26 (aC_26 g ad T S4) (sC_26 g ad T S4 _ _) d_Scene_kill_44 hF (fun S6 hF => ?_)
          exact (kb_Scene_kill_45 (n := n) X hR hk2  hF)
def B_Scene_kill_2 (n T : Nat)  : Nat → Int32 → Int32 → Int32 → dk_S → Option dk_S
  | 0 => fun _ _ _ _ => none
  | q + 1 => fun x1 x2 x3 S => B_Scene_kill_2b n T (fun x1 x2 x3 S => B_Scene_kill_2 n T  q x1 x2 x3 S) x1 x2 x3 S
theorem kb_Scene_kill_2 {p : Program} {l : Launch} {e : Env} {s : State} {m : MethodId} {args : Array Value} {below : List Frame} {meth : Method} {c : Code} {g : dk_G} {A : Nat → Prop} {Q : State → Prop} {ad : Nat → Nat} {T : Nat} {n : Nat} {res : dk_S} (X : dk_X p s m args meth c b_Scene_kill 4 R_Scene (none) g A) (hR : dk_Rv p l e rm_Scene_kill s m args below meth c g A Q 4 b_Scene_kill (none) (wC g ad T) res)  : ∀ (q : Nat) (x1 : Int32) (x2 : Int32) (x3 : Int32)  (S : dk_S), B_Scene_kill_2 n T  q x1 x2 x3 S = some res → dk_J p l e rm_Scene_kill s m args below meth c g A Q 4 0 0 2 [(0, .ref (ad 18)), (1, .int x1), (2, .int x2), (3, .int x3)] [] (wC g ad T S) := by
  intro q
  induction q with
  | zero => intro x1 x2 x3  S hF; cases hF
  | succ q ih => intro x1 x2 x3  S hF; exact kb_Scene_kill_2b (n := n) X hR ih  hF
def B_Scene_kill_0 (n T : Nat)  (x1 : Int32) (x2 : Int32) (S : dk_S) : Option dk_S :=
  B_Scene_kill_2 n T  n x1 x2 (0 : Int32) S
set_option maxRecDepth 20000 in
theorem kb_Scene_kill_0 {p : Program} {l : Launch} {e : Env} {s : State} {m : MethodId} {args : Array Value} {below : List Frame} {meth : Method} {c : Code} {g : dk_G} {A : Nat → Prop} {Q : State → Prop} {ad : Nat → Nat} {T : Nat} {n : Nat} {res : dk_S} (X : dk_X p s m args meth c b_Scene_kill 4 R_Scene (none) g A) (hR : dk_Rv p l e rm_Scene_kill s m args below meth c g A Q 4 b_Scene_kill (none) (wC g ad T) res)  {x1 : Int32} {x2 : Int32} {S : dk_S}  (hF : B_Scene_kill_0 n T  x1 x2 S = some res) : dk_J p l e rm_Scene_kill s m args below meth c g A Q 4 0 0 0 [(0, .ref (ad 18)), (1, .int x1), (2, .int x2)] [] (wC g ad T S) := by
  unfold B_Scene_kill_0 at hF
  refine dk_iconst (v := 0) X (by decide) d_Scene_kill_0 ?_
  refine dk_istore_n (k := 3) (i := 3) (lv' := [(3, .int (0 : Int32)), (0, .ref (ad 18)), (1, .int x1), (2, .int x2)]) X rfl (by decide) rfl d_Scene_kill_1 ?_
  exact dk_sub [1, 2, 3, 0] rfl (kb_Scene_kill_2 (n := n) X hR  n x1 x2 (0 : Int32) S hF)
def F_Scene_kill (n T : Nat) (x1 : Int32) (x2 : Int32) (S : dk_S) : Option dk_S := B_Scene_kill_0 n T x1 x2 S
theorem c_Scene_kill (l : Launch) (g : dk_G) (ad : Nat → Nat) (T n : Nat) (x1 : Int32) (x2 : Int32)  (S : dk_S) : dk_Mv l g y_Scene_kill b_Scene_kill 4 rm_Scene_kill (none) [.ref (ad 18), .int x1, .int x2] (wC g ad T) S (F_Scene_kill n T x1 x2 S) := dk_enterv (by decide) rfl (Nat.le_of_ble_eq_true rfl) (fun p e s m args below meth c A Q res hF X hR => (kb_Scene_kill_0 (n := n) X hR  hF))
abbrev b_Scene_letGo : ByteArray := prog_7_method_13_code
def y_Scene_letGo : MethodName := ⟨R_Scene, "letGo", "(II)V"⟩
theorem d_Scene_letGo_0 : decode b_Scene_letGo 0 = .ok (.iconst 0, 1) := by decide +kernel
theorem d_Scene_letGo_1 : decode b_Scene_letGo 1 = .ok (.istore_n 3, 1) := by decide +kernel
theorem d_Scene_letGo_2 : decode b_Scene_letGo 2 = .ok (.iload_n 3, 1) := by decide +kernel
theorem d_Scene_letGo_3 : decode b_Scene_letGo 3 = .ok (.aload_n 0, 1) := by decide +kernel
theorem d_Scene_letGo_4 : decode b_Scene_letGo 4 = .ok (.getfield 58, 3) := by decide +kernel
theorem d_Scene_letGo_7 : decode b_Scene_letGo 7 = .ok (.if_icmp .ge 35, 3) := by decide +kernel
theorem d_Scene_letGo_10 : decode b_Scene_letGo 10 = .ok (.aload_n 0, 1) := by decide +kernel
theorem d_Scene_letGo_11 : decode b_Scene_letGo 11 = .ok (.iload_n 3, 1) := by decide +kernel
theorem d_Scene_letGo_12 : decode b_Scene_letGo 12 = .ok (.iload_n 1, 1) := by decide +kernel
theorem d_Scene_letGo_13 : decode b_Scene_letGo 13 = .ok (.invokevirtual 146, 3) := by decide +kernel
theorem d_Scene_letGo_16 : decode b_Scene_letGo 16 = .ok (.ifCond .eq 20, 3) := by decide +kernel
theorem d_Scene_letGo_19 : decode b_Scene_letGo 19 = .ok (.aload_n 0, 1) := by decide +kernel
theorem d_Scene_letGo_20 : decode b_Scene_letGo 20 = .ok (.getfield 15, 3) := by decide +kernel
theorem d_Scene_letGo_23 : decode b_Scene_letGo 23 = .ok (.iload_n 3, 1) := by decide +kernel
theorem d_Scene_letGo_24 : decode b_Scene_letGo 24 = .ok (.iaload, 1) := by decide +kernel
theorem d_Scene_letGo_25 : decode b_Scene_letGo 25 = .ok (.iload_n 2, 1) := by decide +kernel
theorem d_Scene_letGo_26 : decode b_Scene_letGo 26 = .ok (.if_icmp .ne 10, 3) := by decide +kernel
theorem d_Scene_letGo_29 : decode b_Scene_letGo 29 = .ok (.aload_n 0, 1) := by decide +kernel
theorem d_Scene_letGo_30 : decode b_Scene_letGo 30 = .ok (.getfield 33, 3) := by decide +kernel
theorem d_Scene_letGo_33 : decode b_Scene_letGo 33 = .ok (.iload_n 3, 1) := by decide +kernel
theorem d_Scene_letGo_34 : decode b_Scene_letGo 34 = .ok (.iconst 1, 1) := by decide +kernel
theorem d_Scene_letGo_35 : decode b_Scene_letGo 35 = .ok (.bastore, 1) := by decide +kernel
theorem d_Scene_letGo_36 : decode b_Scene_letGo 36 = .ok (.iinc 3 1, 3) := by decide +kernel
theorem d_Scene_letGo_39 : decode b_Scene_letGo 39 = .ok (.goto (-37), 3) := by decide +kernel
theorem d_Scene_letGo_42 : decode b_Scene_letGo 42 = .ok (.return_, 1) := by decide +kernel
theorem v_Scene_letGo : dk_Yv y_Scene_letGo b_Scene_letGo 4 (none) 2 := ⟨dk_in (List.mem_of_getElem? (i := 729) (by decide +kernel)) rfl, dk_in (List.mem_of_getElem? (i := 24) (by decide +kernel)) rfl, dk_in (List.mem_of_getElem? (i := 72) (by decide +kernel)) rfl, dk_in (List.mem_of_getElem? (i := 730) (by decide +kernel)) rfl, by decide +kernel, by decide +kernel, by decide +kernel⟩
abbrev rm_Scene_letGo : Room := { frames := 1, cells := 0, slots := 0, locals := 22 }
def B_Scene_letGo_36 (n T : Nat) (k2 : Int32 → Int32 → Int32 → dk_S → Option dk_S) (x1 : Int32) (x2 : Int32) (x3 : Int32) (S : dk_S) : Option dk_S :=
  k2 x1 x2 (x3 + (1 : Int32)) S
set_option maxRecDepth 20000 in
theorem kb_Scene_letGo_36 {p : Program} {l : Launch} {e : Env} {s : State} {m : MethodId} {args : Array Value} {below : List Frame} {meth : Method} {c : Code} {g : dk_G} {A : Nat → Prop} {Q : State → Prop} {ad : Nat → Nat} {T : Nat} {n : Nat} {res : dk_S} (X : dk_X p s m args meth c b_Scene_letGo 4 R_Scene (none) g A) (hR : dk_Rv p l e rm_Scene_letGo s m args below meth c g A Q 4 b_Scene_letGo (none) (wC g ad T) res) {k2 : Int32 → Int32 → Int32 → dk_S → Option dk_S} (hk2 : ∀ (x1 : Int32) (x2 : Int32) (x3 : Int32)  (S : dk_S), k2 x1 x2 x3 S = some res → dk_J p l e rm_Scene_letGo s m args below meth c g A Q 4 0 0 2 [(0, .ref (ad 18)), (1, .int x1), (2, .int x2), (3, .int x3)] [] (wC g ad T S)) {x1 : Int32} {x2 : Int32} {x3 : Int32} {S : dk_S}  (hF : B_Scene_letGo_36 n T k2 x1 x2 x3 S = some res) : dk_J p l e rm_Scene_letGo s m args below meth c g A Q 4 0 0 36 [(0, .ref (ad 18)), (1, .int x1), (2, .int x2), (3, .int x3)] [] (wC g ad T S) := by
  unfold B_Scene_letGo_36 at hF
  refine dk_iinc (i := 3) (v := (x3 + (1 : Int32))) (lv' := [(3, .int (x3 + (1 : Int32))), (0, .ref (ad 18)), (1, .int x1), (2, .int x2)]) X 3 rfl (dk_ii _ (by decide)) (by decide) rfl d_Scene_letGo_36 ?_
  refine dk_goto (tgt := 2) X (by decide) d_Scene_letGo_39 ?_
  exact dk_sub [1, 2, 3, 0] rfl (hk2 x1 x2 (x3 + (1 : Int32)) S hF)
def B_Scene_letGo_2b (n T : Nat) (k2 : Int32 → Int32 → Int32 → dk_S → Option dk_S) (x1 : Int32) (x2 : Int32) (x3 : Int32) (S : dk_S) : Option dk_S :=
  if (S 115 0) ≤ x3 then (some S) else (dk_c (F_Scene_isHoldOf n T x3 x1 S) fun r2 S1 => if r2 = 0 then (B_Scene_letGo_36 n T k2 x1 x2 x3 S1) else (dk_r 44 (S1 20) x3 fun v3 => if ¬ v3 = x2 then (B_Scene_letGo_36 n T k2 x1 x2 x3 S1) else (dk_w S1 26 44 x3 (vp_nar .boolean (1 : Int32)) fun S4 => B_Scene_letGo_36 n T k2 x1 x2 x3 S4)))
set_option maxRecDepth 20000 in
theorem kb_Scene_letGo_2b {p : Program} {l : Launch} {e : Env} {s : State} {m : MethodId} {args : Array Value} {below : List Frame} {meth : Method} {c : Code} {g : dk_G} {A : Nat → Prop} {Q : State → Prop} {ad : Nat → Nat} {T : Nat} {n : Nat} {res : dk_S} (X : dk_X p s m args meth c b_Scene_letGo 4 R_Scene (none) g A) (hR : dk_Rv p l e rm_Scene_letGo s m args below meth c g A Q 4 b_Scene_letGo (none) (wC g ad T) res) {k2 : Int32 → Int32 → Int32 → dk_S → Option dk_S} (hk2 : ∀ (x1 : Int32) (x2 : Int32) (x3 : Int32)  (S : dk_S), k2 x1 x2 x3 S = some res → dk_J p l e rm_Scene_letGo s m args below meth c g A Q 4 0 0 2 [(0, .ref (ad 18)), (1, .int x1), (2, .int x2), (3, .int x3)] [] (wC g ad T S)) {x1 : Int32} {x2 : Int32} {x3 : Int32} {S : dk_S}  (hF : B_Scene_letGo_2b n T k2 x1 x2 x3 S = some res) : dk_J p l e rm_Scene_letGo s m args below meth c g A Q 4 0 0 2 [(0, .ref (ad 18)), (1, .int x1), (2, .int x2), (3, .int x3)] [] (wC g ad T S) := by
  unfold B_Scene_letGo_2b at hF
  refine dk_iload_n (k := 3) (i := 3) X 3 rfl rfl d_Scene_letGo_2 ?_
  refine dk_aload_n (k := 0) (i := 0) X 0 rfl rfl d_Scene_letGo_3 ?_
  refine dk_get X q_Scene 18 11 (by decide) (oC_Scene g ad T S) rfl f_Scene_58 d_Scene_letGo_4 ?_
  refine dk_icmp_ge (tgt := 42) X (by decide) d_Scene_letGo_7 hF (fun hF => ?_) (fun hF => ?_)
  · exact dk_retv hR hF d_Scene_letGo_42
  · refine dk_aload_n (k := 0) (i := 0) X 0 rfl rfl d_Scene_letGo_10 ?_
    refine dk_iload_n (k := 3) (i := 3) X 3 rfl rfl d_Scene_letGo_11 ?_
    refine dk_iload_n (k := 1) (i := 1) X 1 rfl rfl d_Scene_letGo_12 ?_
    refine dk_callVi X v_Scene_isHoldOf [.int x3, .int x1] (c_Scene_isHoldOf l g ad T n x3 x1 S) 18 (oC_Scene g ad T S) rfl rfl m_Scene_146 rfl rfl ⟨rfl, rfl, Nat.le_of_ble_eq_true rfl, Nat.le_of_ble_eq_true rfl, Nat.le_refl _, Nat.le_refl _⟩ (Nat.le_of_ble_eq_true rfl) d_Scene_letGo_13 hF (fun r2 S1 hF => ?_)
    refine dk_if_eq (tgt := 36) X (by decide) d_Scene_letGo_16 hF (fun hF => ?_) (fun hF => ?_)
    · exact (kb_Scene_letGo_36 (n := n) X hR hk2  hF)
    · refine dk_aload_n (k := 0) (i := 0) X 0 rfl rfl d_Scene_letGo_19 ?_
      refine dk_get X q_Scene 18 4 (by decide) (oC_Scene g ad T S1) rfl f_Scene_15 d_Scene_letGo_20 ?_
      refine dk_iload_n (k := 3) (i := 3) X 3 rfl rfl d_Scene_letGo_23 ?_
      refine dk_iald X 20 (aC_20 g ad T S1) d_Scene_letGo_24 hF (fun v3 hF => ?_)
      refine dk_iload_n (k := 2) (i := 2) X 2 rfl rfl d_Scene_letGo_25 ?_
      refine dk_icmp_ne (tgt := 36) X (by decide) d_Scene_letGo_26 hF (fun hF => ?_) (fun hF => ?_)
      · exact (kb_Scene_letGo_36 (n := n) X hR hk2  hF)
      · refine dk_aload_n (k := 0) (i := 0) X 0 rfl rfl d_Scene_letGo_29 ?_
        refine dk_get X q_Scene 18 10 (by decide) (oC_Scene g ad T S1) rfl f_Scene_33 d_Scene_letGo_30 ?_
        refine dk_iload_n (k := 3) (i := 3) X 3 rfl rfl d_Scene_letGo_33 ?_
        refine dk_iconst (v := 1) X (by decide) d_Scene_letGo_34 ?_
        refine dk_zast X 26 (aC_26 g ad T S1) (sC_26 g ad T S1 _ _) d_Scene_letGo_35 hF (fun S4 hF => ?_)
        exact (kb_Scene_letGo_36 (n := n) X hR hk2  hF)
def B_Scene_letGo_2 (n T : Nat)  : Nat → Int32 → Int32 → Int32 → dk_S → Option dk_S
  | 0 => fun _ _ _ _ => none
  | q + 1 => fun x1 x2 x3 S => B_Scene_letGo_2b n T (fun x1 x2 x3 S => B_Scene_letGo_2 n T  q x1 x2 x3 S) x1 x2 x3 S
theorem kb_Scene_letGo_2 {p : Program} {l : Launch} {e : Env} {s : State} {m : MethodId} {args : Array Value} {below : List Frame} {meth : Method} {c : Code} {g : dk_G} {A : Nat → Prop} {Q : State → Prop} {ad : Nat → Nat} {T : Nat} {n : Nat} {res : dk_S} (X : dk_X p s m args meth c b_Scene_letGo 4 R_Scene (none) g A) (hR : dk_Rv p l e rm_Scene_letGo s m args below meth c g A Q 4 b_Scene_letGo (none) (wC g ad T) res)  : ∀ (q : Nat) (x1 : Int32) (x2 : Int32) (x3 : Int32)  (S : dk_S), B_Scene_letGo_2 n T  q x1 x2 x3 S = some res → dk_J p l e rm_Scene_letGo s m args below meth c g A Q 4 0 0 2 [(0, .ref (ad 18)), (1, .int x1), (2, .int x2), (3, .int x3)] [] (wC g ad T S) := by
  intro q
  induction q with
  | zero => intro x1 x2 x3  S hF; cases hF
  | succ q ih => intro x1 x2 x3  S hF; exact kb_Scene_letGo_2b (n := n) X hR ih  hF
def B_Scene_letGo_0 (n T : Nat)  (x1 : Int32) (x2 : Int32) (S : dk_S) : Option dk_S :=
  B_Scene_letGo_2 n T  n x1 x2 (0 : Int32) S
set_option maxRecDepth 20000 in
theorem kb_Scene_letGo_0 {p : Program} {l : Launch} {e : Env} {s : State} {m : MethodId} {args : Array Value} {below : List Frame} {meth : Method} {c : Code} {g : dk_G} {A : Nat → Prop} {Q : State → Prop} {ad : Nat → Nat} {T : Nat} {n : Nat} {res : dk_S} (X : dk_X p s m args meth c b_Scene_letGo 4 R_Scene (none) g A) (hR : dk_Rv p l e rm_Scene_letGo s m args below meth c g A Q 4 b_Scene_letGo (none) (wC g ad T) res)  {x1 : Int32} {x2 : Int32} {S : dk_S}  (hF : B_Scene_letGo_0 n T  x1 x2 S = some res) : dk_J p l e rm_Scene_letGo s m args below meth c g A Q 4 0 0 0 [(0, .ref (ad 18)), (1, .int x1), (2, .int x2)] [] (wC g ad T S) := by
  unfold B_Scene_letGo_0 at hF
  refine dk_iconst (v := 0) X (by decide) d_Scene_letGo_0 ?_
  refine dk_istore_n (k := 3) (i := 3) (lv' := [(3, .int (0 : Int32)), (0, .ref (ad 18)), (1, .int x1), (2, .int x2)]) X rfl (by decide) rfl d_Scene_letGo_1 ?_
  exact dk_sub [1, 2, 3, 0] rfl (kb_Scene_letGo_2 (n := n) X hR  n x1 x2 (0 : Int32) S hF)
def F_Scene_letGo (n T : Nat) (x1 : Int32) (x2 : Int32) (S : dk_S) : Option dk_S := B_Scene_letGo_0 n T x1 x2 S
theorem c_Scene_letGo (l : Launch) (g : dk_G) (ad : Nat → Nat) (T n : Nat) (x1 : Int32) (x2 : Int32)  (S : dk_S) : dk_Mv l g y_Scene_letGo b_Scene_letGo 4 rm_Scene_letGo (none) [.ref (ad 18), .int x1, .int x2] (wC g ad T) S (F_Scene_letGo n T x1 x2 S) := dk_enterv (by decide) rfl (Nat.le_of_ble_eq_true rfl) (fun p e s m args below meth c A Q res hF X hR => (kb_Scene_letGo_0 (n := n) X hR  hF))
abbrev b_Scene_lose : ByteArray := prog_7_method_10_code
def y_Scene_lose : MethodName := ⟨R_Scene, "lose", "(III)V"⟩
theorem d_Scene_lose_0 : decode b_Scene_lose 0 = .ok (.iconst 0, 1) := by decide +kernel
theorem d_Scene_lose_1 : decode b_Scene_lose 1 = .ok (.istore 4, 2) := by decide +kernel
theorem d_Scene_lose_3 : decode b_Scene_lose 3 = .ok (.iload 4, 2) := by decide +kernel
theorem d_Scene_lose_5 : decode b_Scene_lose 5 = .ok (.aload_n 0, 1) := by decide +kernel
theorem d_Scene_lose_6 : decode b_Scene_lose 6 = .ok (.getfield 58, 3) := by decide +kernel
theorem d_Scene_lose_9 : decode b_Scene_lose 9 = .ok (.if_icmp .ge 50, 3) := by decide +kernel
theorem d_Scene_lose_12 : decode b_Scene_lose 12 = .ok (.aload_n 0, 1) := by decide +kernel
theorem d_Scene_lose_13 : decode b_Scene_lose 13 = .ok (.getfield 18, 3) := by decide +kernel
theorem d_Scene_lose_16 : decode b_Scene_lose 16 = .ok (.iload 4, 2) := by decide +kernel
theorem d_Scene_lose_18 : decode b_Scene_lose 18 = .ok (.iaload, 1) := by decide +kernel
theorem d_Scene_lose_19 : decode b_Scene_lose 19 = .ok (.iload_n 1, 1) := by decide +kernel
theorem d_Scene_lose_20 : decode b_Scene_lose 20 = .ok (.if_icmp .ne 33, 3) := by decide +kernel
theorem d_Scene_lose_23 : decode b_Scene_lose 23 = .ok (.aload_n 0, 1) := by decide +kernel
theorem d_Scene_lose_24 : decode b_Scene_lose 24 = .ok (.getfield 15, 3) := by decide +kernel
theorem d_Scene_lose_27 : decode b_Scene_lose 27 = .ok (.iload 4, 2) := by decide +kernel
theorem d_Scene_lose_29 : decode b_Scene_lose 29 = .ok (.iaload, 1) := by decide +kernel
theorem d_Scene_lose_30 : decode b_Scene_lose 30 = .ok (.iload_n 2, 1) := by decide +kernel
theorem d_Scene_lose_31 : decode b_Scene_lose 31 = .ok (.if_icmp .ne 22, 3) := by decide +kernel
theorem d_Scene_lose_34 : decode b_Scene_lose 34 = .ok (.aload_n 0, 1) := by decide +kernel
theorem d_Scene_lose_35 : decode b_Scene_lose 35 = .ok (.getfield 30, 3) := by decide +kernel
theorem d_Scene_lose_38 : decode b_Scene_lose 38 = .ok (.iload 4, 2) := by decide +kernel
theorem d_Scene_lose_40 : decode b_Scene_lose 40 = .ok (.iaload, 1) := by decide +kernel
theorem d_Scene_lose_41 : decode b_Scene_lose 41 = .ok (.iconst (-1), 1) := by decide +kernel
theorem d_Scene_lose_42 : decode b_Scene_lose 42 = .ok (.if_icmp .ne 11, 3) := by decide +kernel
theorem d_Scene_lose_45 : decode b_Scene_lose 45 = .ok (.aload_n 0, 1) := by decide +kernel
theorem d_Scene_lose_46 : decode b_Scene_lose 46 = .ok (.getfield 30, 3) := by decide +kernel
theorem d_Scene_lose_49 : decode b_Scene_lose 49 = .ok (.iload 4, 2) := by decide +kernel
theorem d_Scene_lose_51 : decode b_Scene_lose 51 = .ok (.iload_n 3, 1) := by decide +kernel
theorem d_Scene_lose_52 : decode b_Scene_lose 52 = .ok (.iastore, 1) := by decide +kernel
theorem d_Scene_lose_53 : decode b_Scene_lose 53 = .ok (.iinc 4 1, 3) := by decide +kernel
theorem d_Scene_lose_56 : decode b_Scene_lose 56 = .ok (.goto (-53), 3) := by decide +kernel
theorem d_Scene_lose_59 : decode b_Scene_lose 59 = .ok (.return_, 1) := by decide +kernel
theorem v_Scene_lose : dk_Yv y_Scene_lose b_Scene_lose 5 (none) 3 := ⟨dk_in (List.mem_of_getElem? (i := 713) (by decide +kernel)) rfl, dk_in (List.mem_of_getElem? (i := 20) (by decide +kernel)) rfl, dk_in (List.mem_of_getElem? (i := 72) (by decide +kernel)) rfl, dk_in (List.mem_of_getElem? (i := 714) (by decide +kernel)) rfl, by decide +kernel, by decide +kernel, by decide +kernel⟩
abbrev rm_Scene_lose : Room := { frames := 0, cells := 0, slots := 0, locals := 0 }
def B_Scene_lose_53 (n T : Nat) (k3 : Int32 → Int32 → Int32 → Int32 → dk_S → Option dk_S) (x1 : Int32) (x2 : Int32) (x3 : Int32) (x4 : Int32) (S : dk_S) : Option dk_S :=
  k3 x1 x2 x3 (x4 + (1 : Int32)) S
set_option maxRecDepth 20000 in
theorem kb_Scene_lose_53 {p : Program} {l : Launch} {e : Env} {s : State} {m : MethodId} {args : Array Value} {below : List Frame} {meth : Method} {c : Code} {g : dk_G} {A : Nat → Prop} {Q : State → Prop} {ad : Nat → Nat} {T : Nat} {n : Nat} {res : dk_S} (X : dk_X p s m args meth c b_Scene_lose 5 R_Scene (none) g A) (hR : dk_Rv p l e rm_Scene_lose s m args below meth c g A Q 5 b_Scene_lose (none) (wC g ad T) res) {k3 : Int32 → Int32 → Int32 → Int32 → dk_S → Option dk_S} (hk3 : ∀ (x1 : Int32) (x2 : Int32) (x3 : Int32) (x4 : Int32)  (S : dk_S), k3 x1 x2 x3 x4 S = some res → dk_J p l e rm_Scene_lose s m args below meth c g A Q 5 0 0 3 [(0, .ref (ad 18)), (1, .int x1), (2, .int x2), (3, .int x3), (4, .int x4)] [] (wC g ad T S)) {x1 : Int32} {x2 : Int32} {x3 : Int32} {x4 : Int32} {S : dk_S}  (hF : B_Scene_lose_53 n T k3 x1 x2 x3 x4 S = some res) : dk_J p l e rm_Scene_lose s m args below meth c g A Q 5 0 0 53 [(0, .ref (ad 18)), (1, .int x1), (2, .int x2), (3, .int x3), (4, .int x4)] [] (wC g ad T S) := by
  unfold B_Scene_lose_53 at hF
  refine dk_iinc (i := 4) (v := (x4 + (1 : Int32))) (lv' := [(4, .int (x4 + (1 : Int32))), (0, .ref (ad 18)), (1, .int x1), (2, .int x2), (3, .int x3)]) X 4 rfl (dk_ii _ (by decide)) (by decide) rfl d_Scene_lose_53 ?_
  refine dk_goto (tgt := 3) X (by decide) d_Scene_lose_56 ?_
  exact dk_sub [1, 2, 3, 4, 0] rfl (hk3 x1 x2 x3 (x4 + (1 : Int32)) S hF)
def B_Scene_lose_3b (n T : Nat) (k3 : Int32 → Int32 → Int32 → Int32 → dk_S → Option dk_S) (x1 : Int32) (x2 : Int32) (x3 : Int32) (x4 : Int32) (S : dk_S) : Option dk_S :=
  if (S 115 0) ≤ x4 then (some S) else (dk_r 44 (S 21) x4 fun v1 => if ¬ v1 = x1 then (B_Scene_lose_53 n T k3 x1 x2 x3 x4 S) else (dk_r 44 (S 20) x4 fun v2 => if ¬ v2 = x2 then (B_Scene_lose_53 n T k3 x1 x2 x3 x4 S) else (dk_r 44 (S 25) x4 fun v3 => if ¬ v3 = (-1 : Int32) then (B_Scene_lose_53 n T k3 x1 x2 x3 x4 S) else (dk_w S 25 44 x4 x3 fun S4 => B_Scene_lose_53 n T k3 x1 x2 x3 x4 S4))))
set_option maxRecDepth 20000 in
theorem kb_Scene_lose_3b {p : Program} {l : Launch} {e : Env} {s : State} {m : MethodId} {args : Array Value} {below : List Frame} {meth : Method} {c : Code} {g : dk_G} {A : Nat → Prop} {Q : State → Prop} {ad : Nat → Nat} {T : Nat} {n : Nat} {res : dk_S} (X : dk_X p s m args meth c b_Scene_lose 5 R_Scene (none) g A) (hR : dk_Rv p l e rm_Scene_lose s m args below meth c g A Q 5 b_Scene_lose (none) (wC g ad T) res) {k3 : Int32 → Int32 → Int32 → Int32 → dk_S → Option dk_S} (hk3 : ∀ (x1 : Int32) (x2 : Int32) (x3 : Int32) (x4 : Int32)  (S : dk_S), k3 x1 x2 x3 x4 S = some res → dk_J p l e rm_Scene_lose s m args below meth c g A Q 5 0 0 3 [(0, .ref (ad 18)), (1, .int x1), (2, .int x2), (3, .int x3), (4, .int x4)] [] (wC g ad T S)) {x1 : Int32} {x2 : Int32} {x3 : Int32} {x4 : Int32} {S : dk_S}  (hF : B_Scene_lose_3b n T k3 x1 x2 x3 x4 S = some res) : dk_J p l e rm_Scene_lose s m args below meth c g A Q 5 0 0 3 [(0, .ref (ad 18)), (1, .int x1), (2, .int x2), (3, .int x3), (4, .int x4)] [] (wC g ad T S) := by
  unfold B_Scene_lose_3b at hF
  refine dk_iload (i := 4) X 4 rfl d_Scene_lose_3 ?_
  refine dk_aload_n (k := 0) (i := 0) X 0 rfl rfl d_Scene_lose_5 ?_
  refine dk_get X q_Scene 18 11 (by decide) (oC_Scene g ad T S) rfl f_Scene_58 d_Scene_lose_6 ?_
  refine dk_icmp_ge (tgt := 59) X (by decide) d_Scene_lose_9 hF (fun hF => ?_) (fun hF => ?_)
  · exact dk_retv hR hF d_Scene_lose_59
  · refine dk_aload_n (k := 0) (i := 0) X 0 rfl rfl d_Scene_lose_12 ?_
    refine dk_get X q_Scene 18 5 (by decide) (oC_Scene g ad T S) rfl f_Scene_18 d_Scene_lose_13 ?_
    refine dk_iload (i := 4) X 4 rfl d_Scene_lose_16 ?_
    refine dk_iald X 21 (aC_21 g ad T S) d_Scene_lose_18 hF (fun v1 hF => ?_)
    refine dk_iload_n (k := 1) (i := 1) X 1 rfl rfl d_Scene_lose_19 ?_
    refine dk_icmp_ne (tgt := 53) X (by decide) d_Scene_lose_20 hF (fun hF => ?_) (fun hF => ?_)
    · exact (kb_Scene_lose_53 (n := n) X hR hk3  hF)
    · refine dk_aload_n (k := 0) (i := 0) X 0 rfl rfl d_Scene_lose_23 ?_
      refine dk_get X q_Scene 18 4 (by decide) (oC_Scene g ad T S) rfl f_Scene_15 d_Scene_lose_24 ?_
      refine dk_iload (i := 4) X 4 rfl d_Scene_lose_27 ?_
      refine dk_iald X 20 (aC_20 g ad T S) d_Scene_lose_29 hF (fun v2 hF => ?_)
      refine dk_iload_n (k := 2) (i := 2) X 2 rfl rfl d_Scene_lose_30 ?_
      refine dk_icmp_ne (tgt := 53) X (by decide) d_Scene_lose_31 hF (fun hF => ?_) (fun hF => ?_)
      · exact (kb_Scene_lose_53 (n := n) X hR hk3  hF)
      · refine dk_aload_n (k := 0) (i := 0) X 0 rfl rfl d_Scene_lose_34 ?_
        refine dk_get X q_Scene 18 9 (by decide) (oC_Scene g ad T S) rfl f_Scene_30 d_Scene_lose_35 ?_
        refine dk_iload (i := 4) X 4 rfl d_Scene_lose_38 ?_
        refine dk_iald X 25 (aC_25 g ad T S) d_Scene_lose_40 hF (fun v3 hF => ?_)
        refine dk_iconst (v := -1) X (by decide) d_Scene_lose_41 ?_
        refine dk_icmp_ne (tgt := 53) X (by decide) d_Scene_lose_42 hF (fun hF => ?_) (fun hF => ?_)
        · exact (kb_Scene_lose_53 (n := n) X hR hk3  hF)
        · refine dk_aload_n (k := 0) (i := 0) X 0 rfl rfl d_Scene_lose_45 ?_
          refine dk_get X q_Scene 18 9 (by decide) (oC_Scene g ad T S) rfl f_Scene_30 d_Scene_lose_46 ?_
          refine dk_iload (i := 4) X 4 rfl d_Scene_lose_49 ?_
          refine dk_iload_n (k := 3) (i := 3) X 3 rfl rfl d_Scene_lose_51 ?_
          refine dk_iast X 25 (aC_25 g ad T S) (sC_25 g ad T S _ _) d_Scene_lose_52 hF (fun S4 hF => ?_)
          exact (kb_Scene_lose_53 (n := n) X hR hk3  hF)
def B_Scene_lose_3 (n T : Nat)  : Nat → Int32 → Int32 → Int32 → Int32 → dk_S → Option dk_S
  | 0 => fun _ _ _ _ _ => none
  | q + 1 => fun x1 x2 x3 x4 S => B_Scene_lose_3b n T (fun x1 x2 x3 x4 S => B_Scene_lose_3 n T  q x1 x2 x3 x4 S) x1 x2 x3 x4 S
theorem kb_Scene_lose_3 {p : Program} {l : Launch} {e : Env} {s : State} {m : MethodId} {args : Array Value} {below : List Frame} {meth : Method} {c : Code} {g : dk_G} {A : Nat → Prop} {Q : State → Prop} {ad : Nat → Nat} {T : Nat} {n : Nat} {res : dk_S} (X : dk_X p s m args meth c b_Scene_lose 5 R_Scene (none) g A) (hR : dk_Rv p l e rm_Scene_lose s m args below meth c g A Q 5 b_Scene_lose (none) (wC g ad T) res)  : ∀ (q : Nat) (x1 : Int32) (x2 : Int32) (x3 : Int32) (x4 : Int32)  (S : dk_S), B_Scene_lose_3 n T  q x1 x2 x3 x4 S = some res → dk_J p l e rm_Scene_lose s m args below meth c g A Q 5 0 0 3 [(0, .ref (ad 18)), (1, .int x1), (2, .int x2), (3, .int x3), (4, .int x4)] [] (wC g ad T S) := by
  intro q
  induction q with
  | zero => intro x1 x2 x3 x4  S hF; cases hF
  | succ q ih => intro x1 x2 x3 x4  S hF; exact kb_Scene_lose_3b (n := n) X hR ih  hF
def B_Scene_lose_0 (n T : Nat)  (x1 : Int32) (x2 : Int32) (x3 : Int32) (S : dk_S) : Option dk_S :=
  B_Scene_lose_3 n T  n x1 x2 x3 (0 : Int32) S
set_option maxRecDepth 20000 in
theorem kb_Scene_lose_0 {p : Program} {l : Launch} {e : Env} {s : State} {m : MethodId} {args : Array Value} {below : List Frame} {meth : Method} {c : Code} {g : dk_G} {A : Nat → Prop} {Q : State → Prop} {ad : Nat → Nat} {T : Nat} {n : Nat} {res : dk_S} (X : dk_X p s m args meth c b_Scene_lose 5 R_Scene (none) g A) (hR : dk_Rv p l e rm_Scene_lose s m args below meth c g A Q 5 b_Scene_lose (none) (wC g ad T) res)  {x1 : Int32} {x2 : Int32} {x3 : Int32} {S : dk_S}  (hF : B_Scene_lose_0 n T  x1 x2 x3 S = some res) : dk_J p l e rm_Scene_lose s m args below meth c g A Q 5 0 0 0 [(0, .ref (ad 18)), (1, .int x1), (2, .int x2), (3, .int x3)] [] (wC g ad T S) := by
  unfold B_Scene_lose_0 at hF
  refine dk_iconst (v := 0) X (by decide) d_Scene_lose_0 ?_
  refine dk_istore (i := 4) (lv' := [(4, .int (0 : Int32)), (0, .ref (ad 18)), (1, .int x1), (2, .int x2), (3, .int x3)]) X (by decide) rfl d_Scene_lose_1 ?_
  exact dk_sub [1, 2, 3, 4, 0] rfl (kb_Scene_lose_3 (n := n) X hR  n x1 x2 x3 (0 : Int32) S hF)
def F_Scene_lose (n T : Nat) (x1 : Int32) (x2 : Int32) (x3 : Int32) (S : dk_S) : Option dk_S := B_Scene_lose_0 n T x1 x2 x3 S
theorem c_Scene_lose (l : Launch) (g : dk_G) (ad : Nat → Nat) (T n : Nat) (x1 : Int32) (x2 : Int32) (x3 : Int32)  (S : dk_S) : dk_Mv l g y_Scene_lose b_Scene_lose 5 rm_Scene_lose (none) [.ref (ad 18), .int x1, .int x2, .int x3] (wC g ad T) S (F_Scene_lose n T x1 x2 x3 S) := dk_enterv (by decide) rfl (Nat.le_of_ble_eq_true rfl) (fun p e s m args below meth c A Q res hF X hR => (kb_Scene_lose_0 (n := n) X hR  hF))
abbrev b_Scene_makeOfLiving : ByteArray := prog_7_method_7_code
def y_Scene_makeOfLiving : MethodName := ⟨R_Scene, "makeOfLiving", "(IIIII)V"⟩
theorem d_Scene_makeOfLiving_0 : decode b_Scene_makeOfLiving 0 = .ok (.aload_n 0, 1) := by decide +kernel
theorem d_Scene_makeOfLiving_1 : decode b_Scene_makeOfLiving 1 = .ok (.getfield 43, 3) := by decide +kernel
theorem d_Scene_makeOfLiving_4 : decode b_Scene_makeOfLiving 4 = .ok (.iload_n 2, 1) := by decide +kernel
theorem d_Scene_makeOfLiving_5 : decode b_Scene_makeOfLiving 5 = .ok (.baload, 1) := by decide +kernel
theorem d_Scene_makeOfLiving_6 : decode b_Scene_makeOfLiving 6 = .ok (.ifCond .ne 14, 3) := by decide +kernel
theorem d_Scene_makeOfLiving_9 : decode b_Scene_makeOfLiving 9 = .ok (.aload_n 0, 1) := by decide +kernel
theorem d_Scene_makeOfLiving_10 : decode b_Scene_makeOfLiving 10 = .ok (.iload_n 1, 1) := by decide +kernel
theorem d_Scene_makeOfLiving_11 : decode b_Scene_makeOfLiving 11 = .ok (.iload_n 2, 1) := by decide +kernel
theorem d_Scene_makeOfLiving_12 : decode b_Scene_makeOfLiving 12 = .ok (.iload_n 3, 1) := by decide +kernel
theorem d_Scene_makeOfLiving_13 : decode b_Scene_makeOfLiving 13 = .ok (.iload 4, 2) := by decide +kernel
theorem d_Scene_makeOfLiving_15 : decode b_Scene_makeOfLiving 15 = .ok (.iload 5, 2) := by decide +kernel
theorem d_Scene_makeOfLiving_17 : decode b_Scene_makeOfLiving 17 = .ok (.invokevirtual 93, 3) := by decide +kernel
theorem d_Scene_makeOfLiving_20 : decode b_Scene_makeOfLiving 20 = .ok (.return_, 1) := by decide +kernel
theorem v_Scene_makeOfLiving : dk_Yv y_Scene_makeOfLiving b_Scene_makeOfLiving 6 (none) 5 := ⟨dk_in (List.mem_of_getElem? (i := 709) (by decide +kernel)) rfl, dk_in (List.mem_of_getElem? (i := 19) (by decide +kernel)) rfl, dk_in (List.mem_of_getElem? (i := 72) (by decide +kernel)) rfl, dk_in (List.mem_of_getElem? (i := 710) (by decide +kernel)) rfl, by decide +kernel, by decide +kernel, by decide +kernel⟩
abbrev rm_Scene_makeOfLiving : Room := { frames := 1, cells := 0, slots := 0, locals := 25 }
def B_Scene_makeOfLiving_0 (n T : Nat)  (x1 : Int32) (x2 : Int32) (x3 : Int32) (x4 : Int32) (x5 : Int32) (S : dk_S) : Option dk_S :=
  dk_r 6 (S 29) x2 fun v1 => if ¬ v1 = 0 then (some S) else (dk_cv (F_Scene_make n T x1 x2 x3 x4 x5 S) fun S2 => some S2)
set_option maxRecDepth 20000 in
theorem kb_Scene_makeOfLiving_0 {p : Program} {l : Launch} {e : Env} {s : State} {m : MethodId} {args : Array Value} {below : List Frame} {meth : Method} {c : Code} {g : dk_G} {A : Nat → Prop} {Q : State → Prop} {ad : Nat → Nat} {T : Nat} {n : Nat} {res : dk_S} (X : dk_X p s m args meth c b_Scene_makeOfLiving 6 R_Scene (none) g A) (hR : dk_Rv p l e rm_Scene_makeOfLiving s m args below meth c g A Q 6 b_Scene_makeOfLiving (none) (wC g ad T) res)  {x1 : Int32} {x2 : Int32} {x3 : Int32} {x4 : Int32} {x5 : Int32} {S : dk_S}  (hF : B_Scene_makeOfLiving_0 n T  x1 x2 x3 x4 x5 S = some res) : dk_J p l e rm_Scene_makeOfLiving s m args below meth c g A Q 6 0 0 0 [(0, .ref (ad 18)), (1, .int x1), (2, .int x2), (3, .int x3), (4, .int x4), (5, .int x5)] [] (wC g ad T S) := by
  unfold B_Scene_makeOfLiving_0 at hF
  refine dk_aload_n (k := 0) (i := 0) X 0 rfl rfl d_Scene_makeOfLiving_0 ?_
  refine dk_get X q_Scene 18 15 (by decide) (oC_Scene g ad T S) rfl f_Scene_43 d_Scene_makeOfLiving_1 ?_
  refine dk_iload_n (k := 2) (i := 2) X 2 rfl rfl d_Scene_makeOfLiving_4 ?_
  refine dk_zald X 29 (aC_29 g ad T S) d_Scene_makeOfLiving_5 hF (fun v1 hF => ?_)
  refine dk_if_ne (tgt := 20) X (by decide) d_Scene_makeOfLiving_6 hF (fun hF => ?_) (fun hF => ?_)
  · exact dk_retv hR hF d_Scene_makeOfLiving_20
  · refine dk_aload_n (k := 0) (i := 0) X 0 rfl rfl d_Scene_makeOfLiving_9 ?_
    refine dk_iload_n (k := 1) (i := 1) X 1 rfl rfl d_Scene_makeOfLiving_10 ?_
    refine dk_iload_n (k := 2) (i := 2) X 2 rfl rfl d_Scene_makeOfLiving_11 ?_
    refine dk_iload_n (k := 3) (i := 3) X 3 rfl rfl d_Scene_makeOfLiving_12 ?_
    refine dk_iload (i := 4) X 4 rfl d_Scene_makeOfLiving_13 ?_
    refine dk_iload (i := 5) X 5 rfl d_Scene_makeOfLiving_15 ?_
    refine dk_callVv X v_Scene_make [.int x1, .int x2, .int x3, .int x4, .int x5] (c_Scene_make l g ad T n x1 x2 x3 x4 x5 S) 18 (oC_Scene g ad T S) rfl rfl m_Scene_93 rfl rfl ⟨rfl, rfl, Nat.le_of_ble_eq_true rfl, Nat.le_of_ble_eq_true rfl, Nat.le_refl _, Nat.le_refl _⟩ (Nat.le_of_ble_eq_true rfl) d_Scene_makeOfLiving_17 hF (fun S2 hF => ?_)
    exact dk_retv hR hF d_Scene_makeOfLiving_20
def F_Scene_makeOfLiving (n T : Nat) (x1 : Int32) (x2 : Int32) (x3 : Int32) (x4 : Int32) (x5 : Int32) (S : dk_S) : Option dk_S := B_Scene_makeOfLiving_0 n T x1 x2 x3 x4 x5 S
theorem c_Scene_makeOfLiving (l : Launch) (g : dk_G) (ad : Nat → Nat) (T n : Nat) (x1 : Int32) (x2 : Int32) (x3 : Int32) (x4 : Int32) (x5 : Int32)  (S : dk_S) : dk_Mv l g y_Scene_makeOfLiving b_Scene_makeOfLiving 6 rm_Scene_makeOfLiving (none) [.ref (ad 18), .int x1, .int x2, .int x3, .int x4, .int x5] (wC g ad T) S (F_Scene_makeOfLiving n T x1 x2 x3 x4 x5 S) := dk_enterv (by decide) rfl (Nat.le_of_ble_eq_true rfl) (fun p e s m args below meth c A Q res hF X hR => (kb_Scene_makeOfLiving_0 (n := n) X hR  hF))
abbrev b_Scene_live : ByteArray := prog_7_method_6_code
def y_Scene_live : MethodName := ⟨R_Scene, "live", "(I)V"⟩
theorem d_Scene_live_0 : decode b_Scene_live 0 = .ok (.aload_n 0, 1) := by decide +kernel
theorem d_Scene_live_1 : decode b_Scene_live 1 = .ok (.getfield 50, 3) := by decide +kernel
theorem d_Scene_live_4 : decode b_Scene_live 4 = .ok (.iload_n 1, 1) := by decide +kernel
theorem d_Scene_live_5 : decode b_Scene_live 5 = .ok (.invokevirtual 101, 3) := by decide +kernel
theorem d_Scene_live_8 : decode b_Scene_live 8 = .ok (.ifCond .eq 22, 3) := by decide +kernel
theorem d_Scene_live_11 : decode b_Scene_live 11 = .ok (.aload_n 0, 1) := by decide +kernel
theorem d_Scene_live_12 : decode b_Scene_live 12 = .ok (.getfield 46, 3) := by decide +kernel
theorem d_Scene_live_15 : decode b_Scene_live 15 = .ok (.aload_n 0, 1) := by decide +kernel
theorem d_Scene_live_16 : decode b_Scene_live 16 = .ok (.getfield 50, 3) := by decide +kernel
theorem d_Scene_live_19 : decode b_Scene_live 19 = .ok (.getfield 104, 3) := by decide +kernel
theorem d_Scene_live_22 : decode b_Scene_live 22 = .ok (.iload_n 1, 1) := by decide +kernel
theorem d_Scene_live_23 : decode b_Scene_live 23 = .ok (.iaload, 1) := by decide +kernel
theorem d_Scene_live_24 : decode b_Scene_live 24 = .ok (.invokevirtual 105, 3) := by decide +kernel
theorem d_Scene_live_27 : decode b_Scene_live 27 = .ok (.ifCond .ne 4, 3) := by decide +kernel
theorem d_Scene_live_30 : decode b_Scene_live 30 = .ok (.return_, 1) := by decide +kernel
theorem d_Scene_live_31 : decode b_Scene_live 31 = .ok (.aload_n 0, 1) := by decide +kernel
theorem d_Scene_live_32 : decode b_Scene_live 32 = .ok (.getfield 50, 3) := by decide +kernel
theorem d_Scene_live_35 : decode b_Scene_live 35 = .ok (.getfield 104, 3) := by decide +kernel
theorem d_Scene_live_38 : decode b_Scene_live 38 = .ok (.iload_n 1, 1) := by decide +kernel
theorem d_Scene_live_39 : decode b_Scene_live 39 = .ok (.iaload, 1) := by decide +kernel
theorem d_Scene_live_40 : decode b_Scene_live 40 = .ok (.istore_n 2, 1) := by decide +kernel
theorem d_Scene_live_41 : decode b_Scene_live 41 = .ok (.aload_n 0, 1) := by decide +kernel
theorem d_Scene_live_42 : decode b_Scene_live 42 = .ok (.getfield 50, 3) := by decide +kernel
theorem d_Scene_live_45 : decode b_Scene_live 45 = .ok (.getfield 108, 3) := by decide +kernel
theorem d_Scene_live_48 : decode b_Scene_live 48 = .ok (.iload_n 1, 1) := by decide +kernel
theorem d_Scene_live_49 : decode b_Scene_live 49 = .ok (.iaload, 1) := by decide +kernel
theorem d_Scene_live_50 : decode b_Scene_live 50 = .ok (.istore_n 3, 1) := by decide +kernel
theorem d_Scene_live_51 : decode b_Scene_live 51 = .ok (.aload_n 0, 1) := by decide +kernel
theorem d_Scene_live_52 : decode b_Scene_live 52 = .ok (.getfield 50, 3) := by decide +kernel
theorem d_Scene_live_55 : decode b_Scene_live 55 = .ok (.getfield 111, 3) := by decide +kernel
theorem d_Scene_live_58 : decode b_Scene_live 58 = .ok (.iload_n 1, 1) := by decide +kernel
theorem d_Scene_live_59 : decode b_Scene_live 59 = .ok (.iaload, 1) := by decide +kernel
theorem d_Scene_live_60 : decode b_Scene_live 60 = .ok (.istore 4, 2) := by decide +kernel
theorem d_Scene_live_62 : decode b_Scene_live 62 = .ok (.aload_n 0, 1) := by decide +kernel
theorem d_Scene_live_63 : decode b_Scene_live 63 = .ok (.getfield 50, 3) := by decide +kernel
theorem d_Scene_live_66 : decode b_Scene_live 66 = .ok (.getfield 114, 3) := by decide +kernel
theorem d_Scene_live_69 : decode b_Scene_live 69 = .ok (.iload_n 1, 1) := by decide +kernel
theorem d_Scene_live_70 : decode b_Scene_live 70 = .ok (.iaload, 1) := by decide +kernel
theorem d_Scene_live_71 : decode b_Scene_live 71 = .ok (.istore 5, 2) := by decide +kernel
theorem d_Scene_live_73 : decode b_Scene_live 73 = .ok (.aload_n 0, 1) := by decide +kernel
theorem d_Scene_live_74 : decode b_Scene_live 74 = .ok (.iload 4, 2) := by decide +kernel
theorem d_Scene_live_76 : decode b_Scene_live 76 = .ok (.putfield 75, 3) := by decide +kernel
theorem d_Scene_live_79 : decode b_Scene_live 79 = .ok (.aload_n 0, 1) := by decide +kernel
theorem d_Scene_live_80 : decode b_Scene_live 80 = .ok (.getfield 50, 3) := by decide +kernel
theorem d_Scene_live_83 : decode b_Scene_live 83 = .ok (.getfield 117, 3) := by decide +kernel
theorem d_Scene_live_86 : decode b_Scene_live 86 = .ok (.iload_n 1, 1) := by decide +kernel
theorem d_Scene_live_87 : decode b_Scene_live 87 = .ok (.iaload, 1) := by decide +kernel
theorem d_Scene_live_88 : decode b_Scene_live 88 = .ok (.tableswitch 174 0 9 #[56, 69, 82, 96, 122, 133, 145, 109, 154, 163], 56) := by decide +kernel
theorem d_Scene_live_144 : decode b_Scene_live 144 = .ok (.aload_n 0, 1) := by decide +kernel
theorem d_Scene_live_145 : decode b_Scene_live 145 = .ok (.iconst 0, 1) := by decide +kernel
theorem d_Scene_live_146 : decode b_Scene_live 146 = .ok (.iload_n 2, 1) := by decide +kernel
theorem d_Scene_live_147 : decode b_Scene_live 147 = .ok (.iload_n 3, 1) := by decide +kernel
theorem d_Scene_live_148 : decode b_Scene_live 148 = .ok (.iload 4, 2) := by decide +kernel
theorem d_Scene_live_150 : decode b_Scene_live 150 = .ok (.iconst 0, 1) := by decide +kernel
theorem d_Scene_live_151 : decode b_Scene_live 151 = .ok (.invokevirtual 120, 3) := by decide +kernel
theorem d_Scene_live_154 : decode b_Scene_live 154 = .ok (.goto 108, 3) := by decide +kernel
theorem d_Scene_live_157 : decode b_Scene_live 157 = .ok (.aload_n 0, 1) := by decide +kernel
theorem d_Scene_live_158 : decode b_Scene_live 158 = .ok (.iconst 1, 1) := by decide +kernel
theorem d_Scene_live_159 : decode b_Scene_live 159 = .ok (.iload_n 2, 1) := by decide +kernel
theorem d_Scene_live_160 : decode b_Scene_live 160 = .ok (.iload_n 3, 1) := by decide +kernel
theorem d_Scene_live_161 : decode b_Scene_live 161 = .ok (.iload 4, 2) := by decide +kernel
theorem d_Scene_live_163 : decode b_Scene_live 163 = .ok (.iconst 0, 1) := by decide +kernel
theorem d_Scene_live_164 : decode b_Scene_live 164 = .ok (.invokevirtual 120, 3) := by decide +kernel
theorem d_Scene_live_167 : decode b_Scene_live 167 = .ok (.goto 95, 3) := by decide +kernel
theorem d_Scene_live_170 : decode b_Scene_live 170 = .ok (.aload_n 0, 1) := by decide +kernel
theorem d_Scene_live_171 : decode b_Scene_live 171 = .ok (.iconst 2, 1) := by decide +kernel
theorem d_Scene_live_172 : decode b_Scene_live 172 = .ok (.iload_n 2, 1) := by decide +kernel
theorem d_Scene_live_173 : decode b_Scene_live 173 = .ok (.iload_n 3, 1) := by decide +kernel
theorem d_Scene_live_174 : decode b_Scene_live 174 = .ok (.iload 4, 2) := by decide +kernel
theorem d_Scene_live_176 : decode b_Scene_live 176 = .ok (.iload 5, 2) := by decide +kernel
theorem d_Scene_live_178 : decode b_Scene_live 178 = .ok (.invokevirtual 120, 3) := by decide +kernel
theorem d_Scene_live_181 : decode b_Scene_live 181 = .ok (.goto 81, 3) := by decide +kernel
theorem d_Scene_live_184 : decode b_Scene_live 184 = .ok (.aload_n 0, 1) := by decide +kernel
theorem d_Scene_live_185 : decode b_Scene_live 185 = .ok (.iconst 3, 1) := by decide +kernel
theorem d_Scene_live_186 : decode b_Scene_live 186 = .ok (.iload_n 2, 1) := by decide +kernel
theorem d_Scene_live_187 : decode b_Scene_live 187 = .ok (.iload_n 3, 1) := by decide +kernel
theorem d_Scene_live_188 : decode b_Scene_live 188 = .ok (.iload 4, 2) := by decide +kernel
theorem d_Scene_live_190 : decode b_Scene_live 190 = .ok (.iconst 0, 1) := by decide +kernel
theorem d_Scene_live_191 : decode b_Scene_live 191 = .ok (.invokevirtual 93, 3) := by decide +kernel
theorem d_Scene_live_194 : decode b_Scene_live 194 = .ok (.goto 68, 3) := by decide +kernel
theorem d_Scene_live_197 : decode b_Scene_live 197 = .ok (.aload_n 0, 1) := by decide +kernel
theorem d_Scene_live_198 : decode b_Scene_live 198 = .ok (.iconst 3, 1) := by decide +kernel
theorem d_Scene_live_199 : decode b_Scene_live 199 = .ok (.iload_n 2, 1) := by decide +kernel
theorem d_Scene_live_200 : decode b_Scene_live 200 = .ok (.iload_n 3, 1) := by decide +kernel
theorem d_Scene_live_201 : decode b_Scene_live 201 = .ok (.iload 4, 2) := by decide +kernel
theorem d_Scene_live_203 : decode b_Scene_live 203 = .ok (.iconst 5, 1) := by decide +kernel
theorem d_Scene_live_204 : decode b_Scene_live 204 = .ok (.invokevirtual 93, 3) := by decide +kernel
theorem d_Scene_live_207 : decode b_Scene_live 207 = .ok (.goto 55, 3) := by decide +kernel
theorem d_Scene_live_210 : decode b_Scene_live 210 = .ok (.aload_n 0, 1) := by decide +kernel
theorem d_Scene_live_211 : decode b_Scene_live 211 = .ok (.iload_n 2, 1) := by decide +kernel
theorem d_Scene_live_212 : decode b_Scene_live 212 = .ok (.iload_n 3, 1) := by decide +kernel
theorem d_Scene_live_213 : decode b_Scene_live 213 = .ok (.iload 4, 2) := by decide +kernel
theorem d_Scene_live_215 : decode b_Scene_live 215 = .ok (.invokevirtual 123, 3) := by decide +kernel
theorem d_Scene_live_218 : decode b_Scene_live 218 = .ok (.goto 44, 3) := by decide +kernel
theorem d_Scene_live_221 : decode b_Scene_live 221 = .ok (.aload_n 0, 1) := by decide +kernel
theorem d_Scene_live_222 : decode b_Scene_live 222 = .ok (.iload_n 2, 1) := by decide +kernel
theorem d_Scene_live_223 : decode b_Scene_live 223 = .ok (.iload 5, 2) := by decide +kernel
theorem d_Scene_live_225 : decode b_Scene_live 225 = .ok (.iload 4, 2) := by decide +kernel
theorem d_Scene_live_227 : decode b_Scene_live 227 = .ok (.invokevirtual 127, 3) := by decide +kernel
theorem d_Scene_live_230 : decode b_Scene_live 230 = .ok (.goto 32, 3) := by decide +kernel
theorem d_Scene_live_233 : decode b_Scene_live 233 = .ok (.aload_n 0, 1) := by decide +kernel
theorem d_Scene_live_234 : decode b_Scene_live 234 = .ok (.iload_n 2, 1) := by decide +kernel
theorem d_Scene_live_235 : decode b_Scene_live 235 = .ok (.iload_n 3, 1) := by decide +kernel
theorem d_Scene_live_236 : decode b_Scene_live 236 = .ok (.invokevirtual 130, 3) := by decide +kernel
theorem d_Scene_live_239 : decode b_Scene_live 239 = .ok (.goto 23, 3) := by decide +kernel
theorem d_Scene_live_242 : decode b_Scene_live 242 = .ok (.aload_n 0, 1) := by decide +kernel
theorem d_Scene_live_243 : decode b_Scene_live 243 = .ok (.iload_n 2, 1) := by decide +kernel
theorem d_Scene_live_244 : decode b_Scene_live 244 = .ok (.iload_n 3, 1) := by decide +kernel
theorem d_Scene_live_245 : decode b_Scene_live 245 = .ok (.invokevirtual 133, 3) := by decide +kernel
theorem d_Scene_live_248 : decode b_Scene_live 248 = .ok (.goto 14, 3) := by decide +kernel
theorem d_Scene_live_251 : decode b_Scene_live 251 = .ok (.aload_n 0, 1) := by decide +kernel
theorem d_Scene_live_252 : decode b_Scene_live 252 = .ok (.iload_n 2, 1) := by decide +kernel
theorem d_Scene_live_253 : decode b_Scene_live 253 = .ok (.iload_n 3, 1) := by decide +kernel
theorem d_Scene_live_254 : decode b_Scene_live 254 = .ok (.iload 5, 2) := by decide +kernel
theorem d_Scene_live_256 : decode b_Scene_live 256 = .ok (.invokevirtual 136, 3) := by decide +kernel
theorem d_Scene_live_259 : decode b_Scene_live 259 = .ok (.goto 3, 3) := by decide +kernel
theorem d_Scene_live_262 : decode b_Scene_live 262 = .ok (.return_, 1) := by decide +kernel
theorem v_Scene_live : dk_Yv y_Scene_live b_Scene_live 6 (none) 1 := ⟨dk_in (List.mem_of_getElem? (i := 702) (by decide +kernel)) rfl, dk_in (List.mem_of_getElem? (i := 703) (by decide +kernel)) rfl, dk_in (List.mem_of_getElem? (i := 72) (by decide +kernel)) rfl, dk_in (List.mem_of_getElem? (i := 704) (by decide +kernel)) rfl, by decide +kernel, by decide +kernel, by decide +kernel⟩
abbrev rm_Scene_live : Room := { frames := 3, cells := 0, slots := 0, locals := 71 }
theorem f_Scene_104 : Cond.fieldLink R_Scene 104 (T_Diary 2).1 (T_Diary 2).2.1 (T_Diary 2).2.2.1 ∈ dk_tb := dk_in (List.mem_of_getElem? (i := 137) (by decide +kernel)) rfl
theorem f_Scene_108 : Cond.fieldLink R_Scene 108 (T_Diary 3).1 (T_Diary 3).2.1 (T_Diary 3).2.2.1 ∈ dk_tb := dk_in (List.mem_of_getElem? (i := 140) (by decide +kernel)) rfl
theorem f_Scene_111 : Cond.fieldLink R_Scene 111 (T_Diary 0).1 (T_Diary 0).2.1 (T_Diary 0).2.2.1 ∈ dk_tb := dk_in (List.mem_of_getElem? (i := 131) (by decide +kernel)) rfl
theorem f_Scene_114 : Cond.fieldLink R_Scene 114 (T_Diary 4).1 (T_Diary 4).2.1 (T_Diary 4).2.2.1 ∈ dk_tb := dk_in (List.mem_of_getElem? (i := 143) (by decide +kernel)) rfl
theorem f_Scene_117 : Cond.fieldLink R_Scene 117 (T_Diary 1).1 (T_Diary 1).2.1 (T_Diary 1).2.2.1 ∈ dk_tb := dk_in (List.mem_of_getElem? (i := 134) (by decide +kernel)) rfl
theorem f_Scene_50 : Cond.fieldLink R_Scene 50 (T_Scene 1).1 (T_Scene 1).2.1 (T_Scene 1).2.2.1 ∈ dk_tb := dk_in (List.mem_of_getElem? (i := 251) (by decide +kernel)) rfl
theorem m_Scene_101 : Cond.methodLink R_Scene 101 y_Diary_has ∈ dk_tb := dk_in (List.mem_of_getElem? (i := 705) (by decide +kernel)) rfl
theorem m_Scene_105 : Cond.methodLink R_Scene 105 y_Land_hasBeast ∈ dk_tb := dk_in (List.mem_of_getElem? (i := 706) (by decide +kernel)) rfl
theorem m_Scene_120 : Cond.methodLink R_Scene 120 y_Scene_makeOfLiving ∈ dk_tb := dk_in (List.mem_of_getElem? (i := 707) (by decide +kernel)) rfl
theorem m_Scene_123 : Cond.methodLink R_Scene 123 y_Scene_lose ∈ dk_tb := dk_in (List.mem_of_getElem? (i := 711) (by decide +kernel)) rfl
theorem m_Scene_127 : Cond.methodLink R_Scene 127 y_Scene_cross ∈ dk_tb := dk_in (List.mem_of_getElem? (i := 715) (by decide +kernel)) rfl
theorem m_Scene_130 : Cond.methodLink R_Scene 130 y_Scene_kill ∈ dk_tb := dk_in (List.mem_of_getElem? (i := 719) (by decide +kernel)) rfl
theorem m_Scene_133 : Cond.methodLink R_Scene 133 y_Scene_letGo ∈ dk_tb := dk_in (List.mem_of_getElem? (i := 727) (by decide +kernel)) rfl
theorem m_Scene_136 : Cond.methodLink R_Scene 136 y_Scene_give ∈ dk_tb := dk_in (List.mem_of_getElem? (i := 735) (by decide +kernel)) rfl
def B_Scene_live_0 (n T : Nat)  (x1 : Int32) (S : dk_S) : Option dk_S :=
  dk_c (F_Diary_has n T x1 S) fun r2 S1 => if r2 = 0 then (some S1) else (dk_r 32 (S1 8) x1 fun v3 => dk_c (F_Land_hasBeast n T v3 S1) fun r5 S4 => if ¬ r5 = 0 then (dk_r 32 (S4 8) x1 fun v6 => dk_r 32 (S4 9) x1 fun v7 => dk_r 32 (S4 6) x1 fun v8 => dk_r 32 (S4 10) x1 fun v9 => dk_p S4 116 v8 fun S10 => dk_r 32 (S10 7) x1 fun v11 => if v11 = (0 : Int32) then (dk_cv (F_Scene_makeOfLiving n T (0 : Int32) v6 v7 v8 (0 : Int32) S10) fun S12 => some S12) else (if v11 = (1 : Int32) then (dk_cv (F_Scene_makeOfLiving n T (1 : Int32) v6 v7 v8 (0 : Int32) S10) fun S14 => some S14) else (if v11 = (2 : Int32) then (dk_cv (F_Scene_makeOfLiving n T (2 : Int32) v6 v7 v8 v9 S10) fun S16 => some S16) else (if v11 = (3 : Int32) then (dk_cv (F_Scene_make n T (3 : Int32) v6 v7 v8 (0 : Int32) S10) fun S18 => some S18) else (if v11 = (4 : Int32) then (dk_cv (F_Scene_lose n T v6 v7 v8 S10) fun S20 => some S20) else (if v11 = (5 : Int32) then (dk_cv (F_Scene_cross n T v6 v9 v8 S10) fun S22 => some S22) else (if v11 = (6 : Int32) then (dk_cv (F_Scene_kill n T v6 v7 S10) fun S24 => some S24) else (if v11 = (7 : Int32) then (dk_cv (F_Scene_make n T (3 : Int32) v6 v7 v8 (5 : Int32) S10) fun S26 => some S26) else (if v11 = (8 : Int32) then (dk_cv (F_Scene_letGo n T v6 v7 S10) fun S28 => some S28) else (if v11 = (9 : Int32) then (dk_cv (F_Scene_give n T v6 v7 v9 S10) fun S30 => some S30) else (some S10))))))))))) else (some S4))
set_option maxRecDepth 20000 in
theorem kb_Scene_live_0 {p : Program} {l : Launch} {e : Env} {s : State} {m : MethodId} {args : Array Value} {below : List Frame} {meth : Method} {c : Code} {g : dk_G} {A : Nat → Prop} {Q : State → Prop} {ad : Nat → Nat} {T : Nat} {n : Nat} {res : dk_S} (X : dk_X p s m args meth c b_Scene_live 6 R_Scene (none) g A) (hR : dk_Rv p l e rm_Scene_live s m args below meth c g A Q 6 b_Scene_live (none) (wC g ad T) res)  {x1 : Int32} {S : dk_S}  (hF : B_Scene_live_0 n T  x1 S = some res) : dk_J p l e rm_Scene_live s m args below meth c g A Q 6 0 0 0 [(0, .ref (ad 18)), (1, .int x1)] [] (wC g ad T S) := by
  unfold B_Scene_live_0 at hF
  refine dk_aload_n (k := 0) (i := 0) X 0 rfl rfl d_Scene_live_0 ?_
  refine dk_get X q_Scene 18 1 (by decide) (oC_Scene g ad T S) rfl f_Scene_50 d_Scene_live_1 ?_
  refine dk_iload_n (k := 1) (i := 1) X 1 rfl rfl d_Scene_live_4 ?_
  refine dk_callVi X v_Diary_has [.int x1] (c_Diary_has l g ad T n x1 S) 5 (oC_Diary g ad T S) rfl rfl m_Scene_101 rfl rfl ⟨rfl, rfl, Nat.le_of_ble_eq_true rfl, Nat.le_of_ble_eq_true rfl, Nat.le_refl _, Nat.le_refl _⟩ (Nat.le_of_ble_eq_true rfl) d_Scene_live_5 hF (fun r2 S1 hF => ?_)
  refine dk_if_eq (tgt := 30) X (by decide) d_Scene_live_8 hF (fun hF => ?_) (fun hF => ?_)
  · exact dk_retv hR hF d_Scene_live_30
  · refine dk_aload_n (k := 0) (i := 0) X 0 rfl rfl d_Scene_live_11 ?_
    refine dk_get X q_Scene 18 0 (by decide) (oC_Scene g ad T S1) rfl f_Scene_46 d_Scene_live_12 ?_
    refine dk_aload_n (k := 0) (i := 0) X 0 rfl rfl d_Scene_live_15 ?_
    refine dk_get X q_Scene 18 1 (by decide) (oC_Scene g ad T S1) rfl f_Scene_50 d_Scene_live_16 ?_
    refine dk_get X q_Diary 5 2 (by decide) (oC_Diary g ad T S1) rfl f_Scene_104 d_Scene_live_19 ?_
    refine dk_iload_n (k := 1) (i := 1) X 1 rfl rfl d_Scene_live_22 ?_
    refine dk_iald X 8 (aC_8 g ad T S1) d_Scene_live_23 hF (fun v3 hF => ?_)
    refine dk_callVi X v_Land_hasBeast [.int v3] (c_Land_hasBeast l g ad T n v3 S1) 1 (oC_Land g ad T S1) rfl rfl m_Scene_105 rfl rfl ⟨rfl, rfl, Nat.le_of_ble_eq_true rfl, Nat.le_of_ble_eq_true rfl, Nat.le_refl _, Nat.le_refl _⟩ (Nat.le_of_ble_eq_true rfl) d_Scene_live_24 hF (fun r5 S4 hF => ?_)
    refine dk_if_ne (tgt := 31) X (by decide) d_Scene_live_27 hF (fun hF => ?_) (fun hF => ?_)
    · refine dk_aload_n (k := 0) (i := 0) X 0 rfl rfl d_Scene_live_31 ?_
      refine dk_get X q_Scene 18 1 (by decide) (oC_Scene g ad T S4) rfl f_Scene_50 d_Scene_live_32 ?_
      refine dk_get X q_Diary 5 2 (by decide) (oC_Diary g ad T S4) rfl f_Scene_104 d_Scene_live_35 ?_
      refine dk_iload_n (k := 1) (i := 1) X 1 rfl rfl d_Scene_live_38 ?_
      refine dk_iald X 8 (aC_8 g ad T S4) d_Scene_live_39 hF (fun v6 hF => ?_)
      refine dk_istore_n (k := 2) (i := 2) (lv' := [(2, .int v6), (0, .ref (ad 18)), (1, .int x1)]) X rfl (by decide) rfl d_Scene_live_40 ?_
      refine dk_aload_n (k := 0) (i := 0) X 1 rfl rfl d_Scene_live_41 ?_
      refine dk_get X q_Scene 18 1 (by decide) (oC_Scene g ad T S4) rfl f_Scene_50 d_Scene_live_42 ?_
      refine dk_get X q_Diary 5 3 (by decide) (oC_Diary g ad T S4) rfl f_Scene_108 d_Scene_live_45 ?_
      refine dk_iload_n (k := 1) (i := 1) X 2 rfl rfl d_Scene_live_48 ?_
      refine dk_iald X 9 (aC_9 g ad T S4) d_Scene_live_49 hF (fun v7 hF => ?_)
      refine dk_istore_n (k := 3) (i := 3) (lv' := [(3, .int v7), (2, .int v6), (0, .ref (ad 18)), (1, .int x1)]) X rfl (by decide) rfl d_Scene_live_50 ?_
      refine dk_aload_n (k := 0) (i := 0) X 2 rfl rfl d_Scene_live_51 ?_
      refine dk_get X q_Scene 18 1 (by decide) (oC_Scene g ad T S4) rfl f_Scene_50 d_Scene_live_52 ?_
      refine dk_get X q_Diary 5 0 (by decide) (oC_Diary g ad T S4) rfl f_Scene_111 d_Scene_live_55 ?_
      refine dk_iload_n (k := 1) (i := 1) X 3 rfl rfl d_Scene_live_58 ?_
      refine dk_iald X 6 (aC_6 g ad T S4) d_Scene_live_59 hF (fun v8 hF => ?_)
      refine dk_istore (i := 4) (lv' := [(4, .int v8), (3, .int v7), (2, .int v6), (0, .ref (ad 18)), (1, .int x1)]) X (by decide) rfl d_Scene_live_60 ?_
      refine dk_aload_n (k := 0) (i := 0) X 3 rfl rfl d_Scene_live_62 ?_
      refine dk_get X q_Scene 18 1 (by decide) (oC_Scene g ad T S4) rfl f_Scene_50 d_Scene_live_63 ?_
      refine dk_get X q_Diary 5 4 (by decide) (oC_Diary g ad T S4) rfl f_Scene_114 d_Scene_live_66 ?_
      refine dk_iload_n (k := 1) (i := 1) X 4 rfl rfl d_Scene_live_69 ?_
      refine dk_iald X 10 (aC_10 g ad T S4) d_Scene_live_70 hF (fun v9 hF => ?_)
      refine dk_istore (i := 5) (lv' := [(5, .int v9), (4, .int v8), (3, .int v7), (2, .int v6), (0, .ref (ad 18)), (1, .int x1)]) X (by decide) rfl d_Scene_live_71 ?_
      refine dk_aload_n (k := 0) (i := 0) X 4 rfl rfl d_Scene_live_73 ?_
      refine dk_iload (i := 4) X 1 rfl d_Scene_live_74 ?_
      refine dk_puti X q_Scene 18 12 (by decide) (oC_Scene g ad T S4) f_Scene_75 rfl rfl (Nat.le_of_ble_eq_true rfl) (sC_Scene_now g ad T S4 _) d_Scene_live_76 hF (fun S10 hF => ?_)
      refine dk_aload_n (k := 0) (i := 0) X 4 rfl rfl d_Scene_live_79 ?_
      refine dk_get X q_Scene 18 1 (by decide) (oC_Scene g ad T S10) rfl f_Scene_50 d_Scene_live_80 ?_
      refine dk_get X q_Diary 5 1 (by decide) (oC_Diary g ad T S10) rfl f_Scene_117 d_Scene_live_83 ?_
      refine dk_iload_n (k := 1) (i := 1) X 5 rfl rfl d_Scene_live_86 ?_
      refine dk_iald X 7 (aC_7 g ad T S10) d_Scene_live_87 hF (fun v11 hF => ?_)
      refine dk_if hF (fun hc0 hF => ?_) (fun hc0 hF => ?_)
      · refine dk_tsIn (v := 0) (tgt := 144) X d_Scene_live_88 (by rw [hc0]; decide) (by decide) (by decide) rfl (by decide) ?_
        refine dk_aload_n (k := 0) (i := 0) X 4 rfl rfl d_Scene_live_144 ?_
        refine dk_iconst (v := 0) X (by decide) d_Scene_live_145 ?_
        refine dk_iload_n (k := 2) (i := 2) X 3 rfl rfl d_Scene_live_146 ?_
        refine dk_iload_n (k := 3) (i := 3) X 2 rfl rfl d_Scene_live_147 ?_
        refine dk_iload (i := 4) X 1 rfl d_Scene_live_148 ?_
        refine dk_iconst (v := 0) X (by decide) d_Scene_live_150 ?_
        refine dk_callVv X v_Scene_makeOfLiving [.int (0 : Int32), .int v6, .int v7, .int v8, .int (0 : Int32)] (c_Scene_makeOfLiving l g ad T n (0 : Int32) v6 v7 v8 (0 : Int32) S10) 18 (oC_Scene g ad T S10) rfl rfl m_Scene_120 rfl rfl ⟨rfl, rfl, Nat.le_of_ble_eq_true rfl, Nat.le_of_ble_eq_true rfl, Nat.le_refl _, Nat.le_refl _⟩ (Nat.le_of_ble_eq_true rfl) d_Scene_live_151 hF (fun S12 hF => ?_)
        refine dk_goto (tgt := 262) X (by decide) d_Scene_live_154 ?_
        exact dk_retv hR hF d_Scene_live_262
      · refine dk_if hF (fun hc1 hF => ?_) (fun hc1 hF => ?_)
        · refine dk_tsIn (v := 1) (tgt := 157) X d_Scene_live_88 (by rw [hc1]; decide) (by decide) (by decide) rfl (by decide) ?_
          refine dk_aload_n (k := 0) (i := 0) X 4 rfl rfl d_Scene_live_157 ?_
          refine dk_iconst (v := 1) X (by decide) d_Scene_live_158 ?_
          refine dk_iload_n (k := 2) (i := 2) X 3 rfl rfl d_Scene_live_159 ?_
          refine dk_iload_n (k := 3) (i := 3) X 2 rfl rfl d_Scene_live_160 ?_
          refine dk_iload (i := 4) X 1 rfl d_Scene_live_161 ?_
          refine dk_iconst (v := 0) X (by decide) d_Scene_live_163 ?_
          refine dk_callVv X v_Scene_makeOfLiving [.int (1 : Int32), .int v6, .int v7, .int v8, .int (0 : Int32)] (c_Scene_makeOfLiving l g ad T n (1 : Int32) v6 v7 v8 (0 : Int32) S10) 18 (oC_Scene g ad T S10) rfl rfl m_Scene_120 rfl rfl ⟨rfl, rfl, Nat.le_of_ble_eq_true rfl, Nat.le_of_ble_eq_true rfl, Nat.le_refl _, Nat.le_refl _⟩ (Nat.le_of_ble_eq_true rfl) d_Scene_live_164 hF (fun S14 hF => ?_)
          refine dk_goto (tgt := 262) X (by decide) d_Scene_live_167 ?_
          exact dk_retv hR hF d_Scene_live_262
        · refine dk_if hF (fun hc2 hF => ?_) (fun hc2 hF => ?_)
          · refine dk_tsIn (v := 2) (tgt := 170) X d_Scene_live_88 (by rw [hc2]; decide) (by decide) (by decide) rfl (by decide) ?_
            refine dk_aload_n (k := 0) (i := 0) X 4 rfl rfl d_Scene_live_170 ?_
            refine dk_iconst (v := 2) X (by decide) d_Scene_live_171 ?_
            refine dk_iload_n (k := 2) (i := 2) X 3 rfl rfl d_Scene_live_172 ?_
            refine dk_iload_n (k := 3) (i := 3) X 2 rfl rfl d_Scene_live_173 ?_
            refine dk_iload (i := 4) X 1 rfl d_Scene_live_174 ?_
            refine dk_iload (i := 5) X 0 rfl d_Scene_live_176 ?_
            refine dk_callVv X v_Scene_makeOfLiving [.int (2 : Int32), .int v6, .int v7, .int v8, .int v9] (c_Scene_makeOfLiving l g ad T n (2 : Int32) v6 v7 v8 v9 S10) 18 (oC_Scene g ad T S10) rfl rfl m_Scene_120 rfl rfl ⟨rfl, rfl, Nat.le_of_ble_eq_true rfl, Nat.le_of_ble_eq_true rfl, Nat.le_refl _, Nat.le_refl _⟩ (Nat.le_of_ble_eq_true rfl) d_Scene_live_178 hF (fun S16 hF => ?_)
            refine dk_goto (tgt := 262) X (by decide) d_Scene_live_181 ?_
            exact dk_retv hR hF d_Scene_live_262
          · refine dk_if hF (fun hc3 hF => ?_) (fun hc3 hF => ?_)
            · refine dk_tsIn (v := 3) (tgt := 184) X d_Scene_live_88 (by rw [hc3]; decide) (by decide) (by decide) rfl (by decide) ?_
              refine dk_aload_n (k := 0) (i := 0) X 4 rfl rfl d_Scene_live_184 ?_
              refine dk_iconst (v := 3) X (by decide) d_Scene_live_185 ?_
              refine dk_iload_n (k := 2) (i := 2) X 3 rfl rfl d_Scene_live_186 ?_
              refine dk_iload_n (k := 3) (i := 3) X 2 rfl rfl d_Scene_live_187 ?_
              refine dk_iload (i := 4) X 1 rfl d_Scene_live_188 ?_
              refine dk_iconst (v := 0) X (by decide) d_Scene_live_190 ?_
              refine dk_callVv X v_Scene_make [.int (3 : Int32), .int v6, .int v7, .int v8, .int (0 : Int32)] (c_Scene_make l g ad T n (3 : Int32) v6 v7 v8 (0 : Int32) S10) 18 (oC_Scene g ad T S10) rfl rfl m_Scene_93 rfl rfl ⟨rfl, rfl, Nat.le_of_ble_eq_true rfl, Nat.le_of_ble_eq_true rfl, Nat.le_refl _, Nat.le_refl _⟩ (Nat.le_of_ble_eq_true rfl) d_Scene_live_191 hF (fun S18 hF => ?_)
              refine dk_goto (tgt := 262) X (by decide) d_Scene_live_194 ?_
              exact dk_retv hR hF d_Scene_live_262
            · refine dk_if hF (fun hc4 hF => ?_) (fun hc4 hF => ?_)
              · refine dk_tsIn (v := 4) (tgt := 210) X d_Scene_live_88 (by rw [hc4]; decide) (by decide) (by decide) rfl (by decide) ?_
                refine dk_aload_n (k := 0) (i := 0) X 4 rfl rfl d_Scene_live_210 ?_
                refine dk_iload_n (k := 2) (i := 2) X 3 rfl rfl d_Scene_live_211 ?_
                refine dk_iload_n (k := 3) (i := 3) X 2 rfl rfl d_Scene_live_212 ?_
                refine dk_iload (i := 4) X 1 rfl d_Scene_live_213 ?_
                refine dk_callVv X v_Scene_lose [.int v6, .int v7, .int v8] (c_Scene_lose l g ad T n v6 v7 v8 S10) 18 (oC_Scene g ad T S10) rfl rfl m_Scene_123 rfl rfl ⟨rfl, rfl, Nat.le_of_ble_eq_true rfl, Nat.le_of_ble_eq_true rfl, Nat.le_refl _, Nat.le_refl _⟩ (Nat.le_of_ble_eq_true rfl) d_Scene_live_215 hF (fun S20 hF => ?_)
                refine dk_goto (tgt := 262) X (by decide) d_Scene_live_218 ?_
                exact dk_retv hR hF d_Scene_live_262
              · refine dk_if hF (fun hc5 hF => ?_) (fun hc5 hF => ?_)
                · refine dk_tsIn (v := 5) (tgt := 221) X d_Scene_live_88 (by rw [hc5]; decide) (by decide) (by decide) rfl (by decide) ?_
                  refine dk_aload_n (k := 0) (i := 0) X 4 rfl rfl d_Scene_live_221 ?_
                  refine dk_iload_n (k := 2) (i := 2) X 3 rfl rfl d_Scene_live_222 ?_
                  refine dk_iload (i := 5) X 0 rfl d_Scene_live_223 ?_
                  refine dk_iload (i := 4) X 1 rfl d_Scene_live_225 ?_
                  refine dk_callVv X v_Scene_cross [.int v6, .int v9, .int v8] (c_Scene_cross l g ad T n v6 v9 v8 S10) 18 (oC_Scene g ad T S10) rfl rfl m_Scene_127 rfl rfl ⟨rfl, rfl, Nat.le_of_ble_eq_true rfl, Nat.le_of_ble_eq_true rfl, Nat.le_refl _, Nat.le_refl _⟩ (Nat.le_of_ble_eq_true rfl) d_Scene_live_227 hF (fun S22 hF => ?_)
                  refine dk_goto (tgt := 262) X (by decide) d_Scene_live_230 ?_
                  exact dk_retv hR hF d_Scene_live_262
                · refine dk_if hF (fun hc6 hF => ?_) (fun hc6 hF => ?_)
                  · refine dk_tsIn (v := 6) (tgt := 233) X d_Scene_live_88 (by rw [hc6]; decide) (by decide) (by decide) rfl (by decide) ?_
                    refine dk_aload_n (k := 0) (i := 0) X 4 rfl rfl d_Scene_live_233 ?_
                    refine dk_iload_n (k := 2) (i := 2) X 3 rfl rfl d_Scene_live_234 ?_
                    refine dk_iload_n (k := 3) (i := 3) X 2 rfl rfl d_Scene_live_235 ?_
                    refine dk_callVv X v_Scene_kill [.int v6, .int v7] (c_Scene_kill l g ad T n v6 v7 S10) 18 (oC_Scene g ad T S10) rfl rfl m_Scene_130 rfl rfl ⟨rfl, rfl, Nat.le_of_ble_eq_true rfl, Nat.le_of_ble_eq_true rfl, Nat.le_refl _, Nat.le_refl _⟩ (Nat.le_of_ble_eq_true rfl) d_Scene_live_236 hF (fun S24 hF => ?_)
                    refine dk_goto (tgt := 262) X (by decide) d_Scene_live_239 ?_
                    exact dk_retv hR hF d_Scene_live_262
                  · refine dk_if hF (fun hc7 hF => ?_) (fun hc7 hF => ?_)
                    · refine dk_tsIn (v := 7) (tgt := 197) X d_Scene_live_88 (by rw [hc7]; decide) (by decide) (by decide) rfl (by decide) ?_
                      refine dk_aload_n (k := 0) (i := 0) X 4 rfl rfl d_Scene_live_197 ?_
                      refine dk_iconst (v := 3) X (by decide) d_Scene_live_198 ?_
                      refine dk_iload_n (k := 2) (i := 2) X 3 rfl rfl d_Scene_live_199 ?_
                      refine dk_iload_n (k := 3) (i := 3) X 2 rfl rfl d_Scene_live_200 ?_
                      refine dk_iload (i := 4) X 1 rfl d_Scene_live_201 ?_
                      refine dk_iconst (v := 5) X (by decide) d_Scene_live_203 ?_
                      refine dk_callVv X v_Scene_make [.int (3 : Int32), .int v6, .int v7, .int v8, .int (5 : Int32)] (c_Scene_make l g ad T n (3 : Int32) v6 v7 v8 (5 : Int32) S10) 18 (oC_Scene g ad T S10) rfl rfl m_Scene_93 rfl rfl ⟨rfl, rfl, Nat.le_of_ble_eq_true rfl, Nat.le_of_ble_eq_true rfl, Nat.le_refl _, Nat.le_refl _⟩ (Nat.le_of_ble_eq_true rfl) d_Scene_live_204 hF (fun S26 hF => ?_)
                      refine dk_goto (tgt := 262) X (by decide) d_Scene_live_207 ?_
                      exact dk_retv hR hF d_Scene_live_262
                    · refine dk_if hF (fun hc8 hF => ?_) (fun hc8 hF => ?_)
                      · refine dk_tsIn (v := 8) (tgt := 242) X d_Scene_live_88 (by rw [hc8]; decide) (by decide) (by decide) rfl (by decide) ?_
                        refine dk_aload_n (k := 0) (i := 0) X 4 rfl rfl d_Scene_live_242 ?_
                        refine dk_iload_n (k := 2) (i := 2) X 3 rfl rfl d_Scene_live_243 ?_
                        refine dk_iload_n (k := 3) (i := 3) X 2 rfl rfl d_Scene_live_244 ?_
                        refine dk_callVv X v_Scene_letGo [.int v6, .int v7] (c_Scene_letGo l g ad T n v6 v7 S10) 18 (oC_Scene g ad T S10) rfl rfl m_Scene_133 rfl rfl ⟨rfl, rfl, Nat.le_of_ble_eq_true rfl, Nat.le_of_ble_eq_true rfl, Nat.le_refl _, Nat.le_refl _⟩ (Nat.le_of_ble_eq_true rfl) d_Scene_live_245 hF (fun S28 hF => ?_)
                        refine dk_goto (tgt := 262) X (by decide) d_Scene_live_248 ?_
                        exact dk_retv hR hF d_Scene_live_262
                      · refine dk_if hF (fun hc9 hF => ?_) (fun hc9 hF => ?_)
                        · refine dk_tsIn (v := 9) (tgt := 251) X d_Scene_live_88 (by rw [hc9]; decide) (by decide) (by decide) rfl (by decide) ?_
                          refine dk_aload_n (k := 0) (i := 0) X 4 rfl rfl d_Scene_live_251 ?_
                          refine dk_iload_n (k := 2) (i := 2) X 3 rfl rfl d_Scene_live_252 ?_
                          refine dk_iload_n (k := 3) (i := 3) X 2 rfl rfl d_Scene_live_253 ?_
                          refine dk_iload (i := 5) X 0 rfl d_Scene_live_254 ?_
                          refine dk_callVv X v_Scene_give [.int v6, .int v7, .int v9] (c_Scene_give l g ad T n v6 v7 v9 S10) 18 (oC_Scene g ad T S10) rfl rfl m_Scene_136 rfl rfl ⟨rfl, rfl, Nat.le_of_ble_eq_true rfl, Nat.le_of_ble_eq_true rfl, Nat.le_refl _, Nat.le_refl _⟩ (Nat.le_of_ble_eq_true rfl) d_Scene_live_256 hF (fun S30 hF => ?_)
                          refine dk_goto (tgt := 262) X (by decide) d_Scene_live_259 ?_
                          exact dk_retv hR hF d_Scene_live_262
                        · refine dk_tsOut (tgt := 262) X d_Scene_live_88 (by have e0 := lv_neT hc0 (a := 0) (by decide); have e1 := lv_neT hc1 (a := 1) (by decide); have e2 := lv_neT hc2 (a := 2) (by decide); have e3 := lv_neT hc3 (a := 3) (by decide); have e4 := lv_neT hc4 (a := 4) (by decide); have e5 := lv_neT hc5 (a := 5) (by decide); have e6 := lv_neT hc6 (a := 6) (by decide); have e7 := lv_neT hc7 (a := 7) (by decide); have e8 := lv_neT hc8 (a := 8) (by decide); have e9 := lv_neT hc9 (a := 9) (by decide); omega) (by decide) ?_
                          exact dk_retv hR hF d_Scene_live_262
    · exact dk_retv hR hF d_Scene_live_30
def F_Scene_live (n T : Nat) (x1 : Int32) (S : dk_S) : Option dk_S := B_Scene_live_0 n T x1 S
theorem c_Scene_live (l : Launch) (g : dk_G) (ad : Nat → Nat) (T n : Nat) (x1 : Int32)  (S : dk_S) : dk_Mv l g y_Scene_live b_Scene_live 6 rm_Scene_live (none) [.ref (ad 18), .int x1] (wC g ad T) S (F_Scene_live n T x1 S) := dk_enterv (by decide) rfl (Nat.le_of_ble_eq_true rfl) (fun p e s m args below meth c A Q res hF X hR => (kb_Scene_live_0 (n := n) X hR  hF))
abbrev b_Scene_reach : ByteArray := prog_7_method_3_code
def y_Scene_reach : MethodName := ⟨R_Scene, "reach", "(I)V"⟩
theorem d_Scene_reach_0 : decode b_Scene_reach 0 = .ok (.aload_n 0, 1) := by decide +kernel
theorem d_Scene_reach_1 : decode b_Scene_reach 1 = .ok (.invokevirtual 62, 3) := by decide +kernel
theorem d_Scene_reach_4 : decode b_Scene_reach 4 = .ok (.iconst 0, 1) := by decide +kernel
theorem d_Scene_reach_5 : decode b_Scene_reach 5 = .ok (.istore_n 2, 1) := by decide +kernel
theorem d_Scene_reach_6 : decode b_Scene_reach 6 = .ok (.iload_n 2, 1) := by decide +kernel
theorem d_Scene_reach_7 : decode b_Scene_reach 7 = .ok (.iload_n 1, 1) := by decide +kernel
theorem d_Scene_reach_8 : decode b_Scene_reach 8 = .ok (.if_icmp .ge 14, 3) := by decide +kernel
theorem d_Scene_reach_11 : decode b_Scene_reach 11 = .ok (.aload_n 0, 1) := by decide +kernel
theorem d_Scene_reach_12 : decode b_Scene_reach 12 = .ok (.iload_n 2, 1) := by decide +kernel
theorem d_Scene_reach_13 : decode b_Scene_reach 13 = .ok (.invokevirtual 65, 3) := by decide +kernel
theorem d_Scene_reach_16 : decode b_Scene_reach 16 = .ok (.iinc 2 1, 3) := by decide +kernel
theorem d_Scene_reach_19 : decode b_Scene_reach 19 = .ok (.goto (-13), 3) := by decide +kernel
theorem d_Scene_reach_22 : decode b_Scene_reach 22 = .ok (.return_, 1) := by decide +kernel
theorem v_Scene_reach : dk_Yv y_Scene_reach b_Scene_reach 3 (none) 1 := ⟨dk_in (List.mem_of_getElem? (i := 686) (by decide +kernel)) rfl, dk_in (List.mem_of_getElem? (i := 687) (by decide +kernel)) rfl, dk_in (List.mem_of_getElem? (i := 72) (by decide +kernel)) rfl, dk_in (List.mem_of_getElem? (i := 688) (by decide +kernel)) rfl, by decide +kernel, by decide +kernel, by decide +kernel⟩
abbrev rm_Scene_reach : Room := { frames := 4, cells := 0, slots := 0, locals := 96 }
theorem m_Scene_62 : Cond.methodLink R_Scene 62 y_Scene_begin ∈ dk_tb := dk_in (List.mem_of_getElem? (i := 689) (by decide +kernel)) rfl
theorem m_Scene_65 : Cond.methodLink R_Scene 65 y_Scene_live ∈ dk_tb := dk_in (List.mem_of_getElem? (i := 701) (by decide +kernel)) rfl
def B_Scene_reach_6b (n T : Nat) (k6 : Int32 → Int32 → dk_S → Option dk_S) (x1 : Int32) (x2 : Int32) (S : dk_S) : Option dk_S :=
  if x1 ≤ x2 then (some S) else (dk_cv (F_Scene_live n T x2 S) fun S1 => k6 x1 (x2 + (1 : Int32)) S1)
set_option maxRecDepth 20000 in
theorem kb_Scene_reach_6b {p : Program} {l : Launch} {e : Env} {s : State} {m : MethodId} {args : Array Value} {below : List Frame} {meth : Method} {c : Code} {g : dk_G} {A : Nat → Prop} {Q : State → Prop} {ad : Nat → Nat} {T : Nat} {n : Nat} {res : dk_S} (X : dk_X p s m args meth c b_Scene_reach 3 R_Scene (none) g A) (hR : dk_Rv p l e rm_Scene_reach s m args below meth c g A Q 3 b_Scene_reach (none) (wC g ad T) res) {k6 : Int32 → Int32 → dk_S → Option dk_S} (hk6 : ∀ (x1 : Int32) (x2 : Int32)  (S : dk_S), k6 x1 x2 S = some res → dk_J p l e rm_Scene_reach s m args below meth c g A Q 3 0 0 6 [(0, .ref (ad 18)), (1, .int x1), (2, .int x2)] [] (wC g ad T S)) {x1 : Int32} {x2 : Int32} {S : dk_S}  (hF : B_Scene_reach_6b n T k6 x1 x2 S = some res) : dk_J p l e rm_Scene_reach s m args below meth c g A Q 3 0 0 6 [(0, .ref (ad 18)), (1, .int x1), (2, .int x2)] [] (wC g ad T S) := by
  unfold B_Scene_reach_6b at hF
  refine dk_iload_n (k := 2) (i := 2) X 2 rfl rfl d_Scene_reach_6 ?_
  refine dk_iload_n (k := 1) (i := 1) X 1 rfl rfl d_Scene_reach_7 ?_
  refine dk_icmp_ge (tgt := 22) X (by decide) d_Scene_reach_8 hF (fun hF => ?_) (fun hF => ?_)
  · exact dk_retv hR hF d_Scene_reach_22
  · refine dk_aload_n (k := 0) (i := 0) X 0 rfl rfl d_Scene_reach_11 ?_
    refine dk_iload_n (k := 2) (i := 2) X 2 rfl rfl d_Scene_reach_12 ?_
    refine dk_callVv X v_Scene_live [.int x2] (c_Scene_live l g ad T n x2 S) 18 (oC_Scene g ad T S) rfl rfl m_Scene_65 rfl rfl ⟨rfl, rfl, Nat.le_of_ble_eq_true rfl, Nat.le_of_ble_eq_true rfl, Nat.le_refl _, Nat.le_refl _⟩ (Nat.le_of_ble_eq_true rfl) d_Scene_reach_13 hF (fun S1 hF => ?_)
    refine dk_iinc (i := 2) (v := (x2 + (1 : Int32))) (lv' := [(2, .int (x2 + (1 : Int32))), (0, .ref (ad 18)), (1, .int x1)]) X 2 rfl (dk_ii _ (by decide)) (by decide) rfl d_Scene_reach_16 ?_
    refine dk_goto (tgt := 6) X (by decide) d_Scene_reach_19 ?_
    exact dk_sub [1, 2, 0] rfl (hk6 x1 (x2 + (1 : Int32)) S1 hF)
def B_Scene_reach_6 (n T : Nat)  : Nat → Int32 → Int32 → dk_S → Option dk_S
  | 0 => fun _ _ _ => none
  | q + 1 => fun x1 x2 S => B_Scene_reach_6b n T (fun x1 x2 S => B_Scene_reach_6 n T  q x1 x2 S) x1 x2 S
theorem kb_Scene_reach_6 {p : Program} {l : Launch} {e : Env} {s : State} {m : MethodId} {args : Array Value} {below : List Frame} {meth : Method} {c : Code} {g : dk_G} {A : Nat → Prop} {Q : State → Prop} {ad : Nat → Nat} {T : Nat} {n : Nat} {res : dk_S} (X : dk_X p s m args meth c b_Scene_reach 3 R_Scene (none) g A) (hR : dk_Rv p l e rm_Scene_reach s m args below meth c g A Q 3 b_Scene_reach (none) (wC g ad T) res)  : ∀ (q : Nat) (x1 : Int32) (x2 : Int32)  (S : dk_S), B_Scene_reach_6 n T  q x1 x2 S = some res → dk_J p l e rm_Scene_reach s m args below meth c g A Q 3 0 0 6 [(0, .ref (ad 18)), (1, .int x1), (2, .int x2)] [] (wC g ad T S) := by
  intro q
  induction q with
  | zero => intro x1 x2  S hF; cases hF
  | succ q ih => intro x1 x2  S hF; exact kb_Scene_reach_6b (n := n) X hR ih  hF
def B_Scene_reach_0 (n T : Nat)  (x1 : Int32) (S : dk_S) : Option dk_S :=
  dk_cv (F_Scene_begin n T S) fun S3 => B_Scene_reach_6 n T  n x1 (0 : Int32) S3
set_option maxRecDepth 20000 in
theorem kb_Scene_reach_0 {p : Program} {l : Launch} {e : Env} {s : State} {m : MethodId} {args : Array Value} {below : List Frame} {meth : Method} {c : Code} {g : dk_G} {A : Nat → Prop} {Q : State → Prop} {ad : Nat → Nat} {T : Nat} {n : Nat} {res : dk_S} (X : dk_X p s m args meth c b_Scene_reach 3 R_Scene (none) g A) (hR : dk_Rv p l e rm_Scene_reach s m args below meth c g A Q 3 b_Scene_reach (none) (wC g ad T) res)  {x1 : Int32} {S : dk_S}  (hF : B_Scene_reach_0 n T  x1 S = some res) : dk_J p l e rm_Scene_reach s m args below meth c g A Q 3 0 0 0 [(0, .ref (ad 18)), (1, .int x1)] [] (wC g ad T S) := by
  unfold B_Scene_reach_0 at hF
  refine dk_aload_n (k := 0) (i := 0) X 0 rfl rfl d_Scene_reach_0 ?_
  refine dk_callVv X v_Scene_begin [] (c_Scene_begin l g ad T n S) 18 (oC_Scene g ad T S) rfl rfl m_Scene_62 rfl rfl ⟨rfl, rfl, Nat.le_of_ble_eq_true rfl, Nat.le_of_ble_eq_true rfl, Nat.le_refl _, Nat.le_refl _⟩ (Nat.le_of_ble_eq_true rfl) d_Scene_reach_1 hF (fun S3 hF => ?_)
  refine dk_iconst (v := 0) X (by decide) d_Scene_reach_4 ?_
  refine dk_istore_n (k := 2) (i := 2) (lv' := [(2, .int (0 : Int32)), (0, .ref (ad 18)), (1, .int x1)]) X rfl (by decide) rfl d_Scene_reach_5 ?_
  exact dk_sub [1, 2, 0] rfl (kb_Scene_reach_6 (n := n) X hR  n x1 (0 : Int32) S3 hF)
def F_Scene_reach (n T : Nat) (x1 : Int32) (S : dk_S) : Option dk_S := B_Scene_reach_0 n T x1 S
theorem c_Scene_reach (l : Launch) (g : dk_G) (ad : Nat → Nat) (T n : Nat) (x1 : Int32)  (S : dk_S) : dk_Mv l g y_Scene_reach b_Scene_reach 3 rm_Scene_reach (none) [.ref (ad 18), .int x1] (wC g ad T) S (F_Scene_reach n T x1 S) := dk_enterv (by decide) rfl (Nat.le_of_ble_eq_true rfl) (fun p e s m args below meth c A Q res hF X hR => (kb_Scene_reach_0 (n := n) X hR  hF))
abbrev b_Scene_has : ByteArray := prog_7_method_2_code
def y_Scene_has : MethodName := ⟨R_Scene, "has", "(I)Z"⟩
theorem d_Scene_has_0 : decode b_Scene_has 0 = .ok (.iload_n 1, 1) := by decide +kernel
theorem d_Scene_has_1 : decode b_Scene_has 1 = .ok (.ifCond .lt 15, 3) := by decide +kernel
theorem d_Scene_has_4 : decode b_Scene_has 4 = .ok (.iload_n 1, 1) := by decide +kernel
theorem d_Scene_has_5 : decode b_Scene_has 5 = .ok (.aload_n 0, 1) := by decide +kernel
theorem d_Scene_has_6 : decode b_Scene_has 6 = .ok (.getfield 58, 3) := by decide +kernel
theorem d_Scene_has_9 : decode b_Scene_has 9 = .ok (.if_icmp .ge 7, 3) := by decide +kernel
theorem d_Scene_has_12 : decode b_Scene_has 12 = .ok (.iconst 1, 1) := by decide +kernel
theorem d_Scene_has_13 : decode b_Scene_has 13 = .ok (.goto 4, 3) := by decide +kernel
theorem d_Scene_has_16 : decode b_Scene_has 16 = .ok (.iconst 0, 1) := by decide +kernel
theorem d_Scene_has_17 : decode b_Scene_has 17 = .ok (.ireturn, 1) := by decide +kernel
theorem v_Scene_has : dk_Yv y_Scene_has b_Scene_has 2 (some .boolean) 1 := ⟨dk_in (List.mem_of_getElem? (i := 744) (by decide +kernel)) rfl, dk_in (List.mem_of_getElem? (i := 745) (by decide +kernel)) rfl, dk_in (List.mem_of_getElem? (i := 72) (by decide +kernel)) rfl, dk_in (List.mem_of_getElem? (i := 746) (by decide +kernel)) rfl, by decide +kernel, by decide +kernel, by decide +kernel⟩
abbrev rm_Scene_has : Room := { frames := 0, cells := 0, slots := 0, locals := 0 }
def B_Scene_has_0 (n T : Nat)  (x1 : Int32) (S : dk_S) : Option (Int32 × dk_S) :=
  if x1 < 0 then (dk_b (0 : Int32) (some ((0 : Int32), S))) else (if (S 115 0) ≤ x1 then (dk_b (0 : Int32) (some ((0 : Int32), S))) else (dk_b (1 : Int32) (some ((1 : Int32), S))))
set_option maxRecDepth 20000 in
theorem kb_Scene_has_0 {p : Program} {l : Launch} {e : Env} {s : State} {m : MethodId} {args : Array Value} {below : List Frame} {meth : Method} {c : Code} {g : dk_G} {A : Nat → Prop} {Q : State → Prop} {ad : Nat → Nat} {T : Nat} {n : Nat} {res : (Int32 × dk_S)} (X : dk_X p s m args meth c b_Scene_has 2 R_Scene (some .boolean) g A) (hR : dk_Ri p l e rm_Scene_has s m args below meth c g A Q 2 b_Scene_has (some .boolean) (wC g ad T) res)  {x1 : Int32} {S : dk_S}  (hF : B_Scene_has_0 n T  x1 S = some res) : dk_J p l e rm_Scene_has s m args below meth c g A Q 2 0 0 0 [(0, .ref (ad 18)), (1, .int x1)] [] (wC g ad T S) := by
  unfold B_Scene_has_0 at hF
  refine dk_iload_n (k := 1) (i := 1) X 1 rfl rfl d_Scene_has_0 ?_
  refine dk_if_lt (tgt := 16) X (by decide) d_Scene_has_1 hF (fun hF => ?_) (fun hF => ?_)
  · refine dk_iconst (v := 0) X (by decide) d_Scene_has_16 ?_
    exact dk_retz hR hF d_Scene_has_17
  · refine dk_iload_n (k := 1) (i := 1) X 1 rfl rfl d_Scene_has_4 ?_
    refine dk_aload_n (k := 0) (i := 0) X 0 rfl rfl d_Scene_has_5 ?_
    refine dk_get X q_Scene 18 11 (by decide) (oC_Scene g ad T S) rfl f_Scene_58 d_Scene_has_6 ?_
    refine dk_icmp_ge (tgt := 16) X (by decide) d_Scene_has_9 hF (fun hF => ?_) (fun hF => ?_)
    · refine dk_iconst (v := 0) X (by decide) d_Scene_has_16 ?_
      exact dk_retz hR hF d_Scene_has_17
    · refine dk_iconst (v := 1) X (by decide) d_Scene_has_12 ?_
      refine dk_goto (tgt := 17) X (by decide) d_Scene_has_13 ?_
      exact dk_retz hR hF d_Scene_has_17
def F_Scene_has (n T : Nat) (x1 : Int32) (S : dk_S) : Option (Int32 × dk_S) := B_Scene_has_0 n T x1 S
theorem c_Scene_has (l : Launch) (g : dk_G) (ad : Nat → Nat) (T n : Nat) (x1 : Int32)  (S : dk_S) : dk_Mi l g y_Scene_has b_Scene_has 2 rm_Scene_has (some .boolean) [.ref (ad 18), .int x1] (wC g ad T) S (F_Scene_has n T x1 S) := dk_enteri (by decide) (Nat.le_of_ble_eq_true rfl) (fun p e s m args below meth c A Q res hF X hR => (kb_Scene_has_0 (n := n) X hR  hF))
abbrev b_Scene_isHeld : ByteArray := prog_7_method_21_code
def y_Scene_isHeld : MethodName := ⟨R_Scene, "isHeld", "(I)Z"⟩
theorem d_Scene_isHeld_0 : decode b_Scene_isHeld 0 = .ok (.iconst 0, 1) := by decide +kernel
theorem d_Scene_isHeld_1 : decode b_Scene_isHeld 1 = .ok (.istore_n 2, 1) := by decide +kernel
theorem d_Scene_isHeld_2 : decode b_Scene_isHeld 2 = .ok (.iload_n 2, 1) := by decide +kernel
theorem d_Scene_isHeld_3 : decode b_Scene_isHeld 3 = .ok (.aload_n 0, 1) := by decide +kernel
theorem d_Scene_isHeld_4 : decode b_Scene_isHeld 4 = .ok (.getfield 58, 3) := by decide +kernel
theorem d_Scene_isHeld_7 : decode b_Scene_isHeld 7 = .ok (.if_icmp .ge 29, 3) := by decide +kernel
theorem d_Scene_isHeld_10 : decode b_Scene_isHeld 10 = .ok (.aload_n 0, 1) := by decide +kernel
theorem d_Scene_isHeld_11 : decode b_Scene_isHeld 11 = .ok (.iload_n 2, 1) := by decide +kernel
theorem d_Scene_isHeld_12 : decode b_Scene_isHeld 12 = .ok (.iload_n 1, 1) := by decide +kernel
theorem d_Scene_isHeld_13 : decode b_Scene_isHeld 13 = .ok (.invokevirtual 146, 3) := by decide +kernel
theorem d_Scene_isHeld_16 : decode b_Scene_isHeld 16 = .ok (.ifCond .eq 14, 3) := by decide +kernel
theorem d_Scene_isHeld_19 : decode b_Scene_isHeld 19 = .ok (.aload_n 0, 1) := by decide +kernel
theorem d_Scene_isHeld_20 : decode b_Scene_isHeld 20 = .ok (.getfield 33, 3) := by decide +kernel
theorem d_Scene_isHeld_23 : decode b_Scene_isHeld 23 = .ok (.iload_n 2, 1) := by decide +kernel
theorem d_Scene_isHeld_24 : decode b_Scene_isHeld 24 = .ok (.baload, 1) := by decide +kernel
theorem d_Scene_isHeld_25 : decode b_Scene_isHeld 25 = .ok (.ifCond .ne 5, 3) := by decide +kernel
theorem d_Scene_isHeld_28 : decode b_Scene_isHeld 28 = .ok (.iconst 1, 1) := by decide +kernel
theorem d_Scene_isHeld_29 : decode b_Scene_isHeld 29 = .ok (.ireturn, 1) := by decide +kernel
theorem d_Scene_isHeld_30 : decode b_Scene_isHeld 30 = .ok (.iinc 2 1, 3) := by decide +kernel
theorem d_Scene_isHeld_33 : decode b_Scene_isHeld 33 = .ok (.goto (-31), 3) := by decide +kernel
theorem d_Scene_isHeld_36 : decode b_Scene_isHeld 36 = .ok (.iconst 0, 1) := by decide +kernel
theorem d_Scene_isHeld_37 : decode b_Scene_isHeld 37 = .ok (.ireturn, 1) := by decide +kernel
theorem v_Scene_isHeld : dk_Yv y_Scene_isHeld b_Scene_isHeld 3 (some .boolean) 1 := ⟨dk_in (List.mem_of_getElem? (i := 762) (by decide +kernel)) rfl, dk_in (List.mem_of_getElem? (i := 29) (by decide +kernel)) rfl, dk_in (List.mem_of_getElem? (i := 72) (by decide +kernel)) rfl, dk_in (List.mem_of_getElem? (i := 763) (by decide +kernel)) rfl, by decide +kernel, by decide +kernel, by decide +kernel⟩
abbrev rm_Scene_isHeld : Room := { frames := 1, cells := 0, slots := 0, locals := 22 }
def B_Scene_isHeld_30 (n T : Nat) (k2 : Int32 → Int32 → dk_S → Option (Int32 × dk_S)) (x1 : Int32) (x2 : Int32) (S : dk_S) : Option (Int32 × dk_S) :=
  k2 x1 (x2 + (1 : Int32)) S
set_option maxRecDepth 20000 in
theorem kb_Scene_isHeld_30 {p : Program} {l : Launch} {e : Env} {s : State} {m : MethodId} {args : Array Value} {below : List Frame} {meth : Method} {c : Code} {g : dk_G} {A : Nat → Prop} {Q : State → Prop} {ad : Nat → Nat} {T : Nat} {n : Nat} {res : (Int32 × dk_S)} (X : dk_X p s m args meth c b_Scene_isHeld 3 R_Scene (some .boolean) g A) (hR : dk_Ri p l e rm_Scene_isHeld s m args below meth c g A Q 3 b_Scene_isHeld (some .boolean) (wC g ad T) res) {k2 : Int32 → Int32 → dk_S → Option (Int32 × dk_S)} (hk2 : ∀ (x1 : Int32) (x2 : Int32)  (S : dk_S), k2 x1 x2 S = some res → dk_J p l e rm_Scene_isHeld s m args below meth c g A Q 3 0 0 2 [(0, .ref (ad 18)), (1, .int x1), (2, .int x2)] [] (wC g ad T S)) {x1 : Int32} {x2 : Int32} {S : dk_S}  (hF : B_Scene_isHeld_30 n T k2 x1 x2 S = some res) : dk_J p l e rm_Scene_isHeld s m args below meth c g A Q 3 0 0 30 [(0, .ref (ad 18)), (1, .int x1), (2, .int x2)] [] (wC g ad T S) := by
  unfold B_Scene_isHeld_30 at hF
  refine dk_iinc (i := 2) (v := (x2 + (1 : Int32))) (lv' := [(2, .int (x2 + (1 : Int32))), (0, .ref (ad 18)), (1, .int x1)]) X 2 rfl (dk_ii _ (by decide)) (by decide) rfl d_Scene_isHeld_30 ?_
  refine dk_goto (tgt := 2) X (by decide) d_Scene_isHeld_33 ?_
  exact dk_sub [1, 2, 0] rfl (hk2 x1 (x2 + (1 : Int32)) S hF)
def B_Scene_isHeld_2b (n T : Nat) (k2 : Int32 → Int32 → dk_S → Option (Int32 × dk_S)) (x1 : Int32) (x2 : Int32) (S : dk_S) : Option (Int32 × dk_S) :=
  if (S 115 0) ≤ x2 then (dk_b (0 : Int32) (some ((0 : Int32), S))) else (dk_c (F_Scene_isHoldOf n T x2 x1 S) fun r2 S1 => if r2 = 0 then (B_Scene_isHeld_30 n T k2 x1 x2 S1) else (dk_r 44 (S1 26) x2 fun v3 => if ¬ v3 = 0 then (B_Scene_isHeld_30 n T k2 x1 x2 S1) else (dk_b (1 : Int32) (some ((1 : Int32), S1)))))
set_option maxRecDepth 20000 in
theorem kb_Scene_isHeld_2b {p : Program} {l : Launch} {e : Env} {s : State} {m : MethodId} {args : Array Value} {below : List Frame} {meth : Method} {c : Code} {g : dk_G} {A : Nat → Prop} {Q : State → Prop} {ad : Nat → Nat} {T : Nat} {n : Nat} {res : (Int32 × dk_S)} (X : dk_X p s m args meth c b_Scene_isHeld 3 R_Scene (some .boolean) g A) (hR : dk_Ri p l e rm_Scene_isHeld s m args below meth c g A Q 3 b_Scene_isHeld (some .boolean) (wC g ad T) res) {k2 : Int32 → Int32 → dk_S → Option (Int32 × dk_S)} (hk2 : ∀ (x1 : Int32) (x2 : Int32)  (S : dk_S), k2 x1 x2 S = some res → dk_J p l e rm_Scene_isHeld s m args below meth c g A Q 3 0 0 2 [(0, .ref (ad 18)), (1, .int x1), (2, .int x2)] [] (wC g ad T S)) {x1 : Int32} {x2 : Int32} {S : dk_S}  (hF : B_Scene_isHeld_2b n T k2 x1 x2 S = some res) : dk_J p l e rm_Scene_isHeld s m args below meth c g A Q 3 0 0 2 [(0, .ref (ad 18)), (1, .int x1), (2, .int x2)] [] (wC g ad T S) := by
  unfold B_Scene_isHeld_2b at hF
  refine dk_iload_n (k := 2) (i := 2) X 2 rfl rfl d_Scene_isHeld_2 ?_
  refine dk_aload_n (k := 0) (i := 0) X 0 rfl rfl d_Scene_isHeld_3 ?_
  refine dk_get X q_Scene 18 11 (by decide) (oC_Scene g ad T S) rfl f_Scene_58 d_Scene_isHeld_4 ?_
  refine dk_icmp_ge (tgt := 36) X (by decide) d_Scene_isHeld_7 hF (fun hF => ?_) (fun hF => ?_)
  · refine dk_iconst (v := 0) X (by decide) d_Scene_isHeld_36 ?_
    exact dk_retz hR hF d_Scene_isHeld_37
  · refine dk_aload_n (k := 0) (i := 0) X 0 rfl rfl d_Scene_isHeld_10 ?_
    refine dk_iload_n (k := 2) (i := 2) X 2 rfl rfl d_Scene_isHeld_11 ?_
    refine dk_iload_n (k := 1) (i := 1) X 1 rfl rfl d_Scene_isHeld_12 ?_
    refine dk_callVi X v_Scene_isHoldOf [.int x2, .int x1] (c_Scene_isHoldOf l g ad T n x2 x1 S) 18 (oC_Scene g ad T S) rfl rfl m_Scene_146 rfl rfl ⟨rfl, rfl, Nat.le_of_ble_eq_true rfl, Nat.le_of_ble_eq_true rfl, Nat.le_refl _, Nat.le_refl _⟩ (Nat.le_of_ble_eq_true rfl) d_Scene_isHeld_13 hF (fun r2 S1 hF => ?_)
    refine dk_if_eq (tgt := 30) X (by decide) d_Scene_isHeld_16 hF (fun hF => ?_) (fun hF => ?_)
    · exact (kb_Scene_isHeld_30 (n := n) X hR hk2  hF)
    · refine dk_aload_n (k := 0) (i := 0) X 0 rfl rfl d_Scene_isHeld_19 ?_
      refine dk_get X q_Scene 18 10 (by decide) (oC_Scene g ad T S1) rfl f_Scene_33 d_Scene_isHeld_20 ?_
      refine dk_iload_n (k := 2) (i := 2) X 2 rfl rfl d_Scene_isHeld_23 ?_
      refine dk_zald X 26 (aC_26 g ad T S1) d_Scene_isHeld_24 hF (fun v3 hF => ?_)
      refine dk_if_ne (tgt := 30) X (by decide) d_Scene_isHeld_25 hF (fun hF => ?_) (fun hF => ?_)
      · exact (kb_Scene_isHeld_30 (n := n) X hR hk2  hF)
      · refine dk_iconst (v := 1) X (by decide) d_Scene_isHeld_28 ?_
        exact dk_retz hR hF d_Scene_isHeld_29
def B_Scene_isHeld_2 (n T : Nat)  : Nat → Int32 → Int32 → dk_S → Option (Int32 × dk_S)
  | 0 => fun _ _ _ => none
  | q + 1 => fun x1 x2 S => B_Scene_isHeld_2b n T (fun x1 x2 S => B_Scene_isHeld_2 n T  q x1 x2 S) x1 x2 S
theorem kb_Scene_isHeld_2 {p : Program} {l : Launch} {e : Env} {s : State} {m : MethodId} {args : Array Value} {below : List Frame} {meth : Method} {c : Code} {g : dk_G} {A : Nat → Prop} {Q : State → Prop} {ad : Nat → Nat} {T : Nat} {n : Nat} {res : (Int32 × dk_S)} (X : dk_X p s m args meth c b_Scene_isHeld 3 R_Scene (some .boolean) g A) (hR : dk_Ri p l e rm_Scene_isHeld s m args below meth c g A Q 3 b_Scene_isHeld (some .boolean) (wC g ad T) res)  : ∀ (q : Nat) (x1 : Int32) (x2 : Int32)  (S : dk_S), B_Scene_isHeld_2 n T  q x1 x2 S = some res → dk_J p l e rm_Scene_isHeld s m args below meth c g A Q 3 0 0 2 [(0, .ref (ad 18)), (1, .int x1), (2, .int x2)] [] (wC g ad T S) := by
  intro q
  induction q with
  | zero => intro x1 x2  S hF; cases hF
  | succ q ih => intro x1 x2  S hF; exact kb_Scene_isHeld_2b (n := n) X hR ih  hF
def B_Scene_isHeld_0 (n T : Nat)  (x1 : Int32) (S : dk_S) : Option (Int32 × dk_S) :=
  B_Scene_isHeld_2 n T  n x1 (0 : Int32) S
set_option maxRecDepth 20000 in
theorem kb_Scene_isHeld_0 {p : Program} {l : Launch} {e : Env} {s : State} {m : MethodId} {args : Array Value} {below : List Frame} {meth : Method} {c : Code} {g : dk_G} {A : Nat → Prop} {Q : State → Prop} {ad : Nat → Nat} {T : Nat} {n : Nat} {res : (Int32 × dk_S)} (X : dk_X p s m args meth c b_Scene_isHeld 3 R_Scene (some .boolean) g A) (hR : dk_Ri p l e rm_Scene_isHeld s m args below meth c g A Q 3 b_Scene_isHeld (some .boolean) (wC g ad T) res)  {x1 : Int32} {S : dk_S}  (hF : B_Scene_isHeld_0 n T  x1 S = some res) : dk_J p l e rm_Scene_isHeld s m args below meth c g A Q 3 0 0 0 [(0, .ref (ad 18)), (1, .int x1)] [] (wC g ad T S) := by
  unfold B_Scene_isHeld_0 at hF
  refine dk_iconst (v := 0) X (by decide) d_Scene_isHeld_0 ?_
  refine dk_istore_n (k := 2) (i := 2) (lv' := [(2, .int (0 : Int32)), (0, .ref (ad 18)), (1, .int x1)]) X rfl (by decide) rfl d_Scene_isHeld_1 ?_
  exact dk_sub [1, 2, 0] rfl (kb_Scene_isHeld_2 (n := n) X hR  n x1 (0 : Int32) S hF)
def F_Scene_isHeld (n T : Nat) (x1 : Int32) (S : dk_S) : Option (Int32 × dk_S) := B_Scene_isHeld_0 n T x1 S
theorem c_Scene_isHeld (l : Launch) (g : dk_G) (ad : Nat → Nat) (T n : Nat) (x1 : Int32)  (S : dk_S) : dk_Mi l g y_Scene_isHeld b_Scene_isHeld 3 rm_Scene_isHeld (some .boolean) [.ref (ad 18), .int x1] (wC g ad T) S (F_Scene_isHeld n T x1 S) := dk_enteri (by decide) (Nat.le_of_ble_eq_true rfl) (fun p e s m args below meth c A Q res hF X hR => (kb_Scene_isHeld_0 (n := n) X hR  hF))
abbrev b_Scene_isLostForLong : ByteArray := prog_7_method_19_code
def y_Scene_isLostForLong : MethodName := ⟨R_Scene, "isLostForLong", "(I)Z"⟩
theorem d_Scene_isLostForLong_0 : decode b_Scene_isLostForLong 0 = .ok (.aload_n 0, 1) := by decide +kernel
theorem d_Scene_isLostForLong_1 : decode b_Scene_isLostForLong 1 = .ok (.getfield 30, 3) := by decide +kernel
theorem d_Scene_isLostForLong_4 : decode b_Scene_isLostForLong 4 = .ok (.iload_n 1, 1) := by decide +kernel
theorem d_Scene_isLostForLong_5 : decode b_Scene_isLostForLong 5 = .ok (.iaload, 1) := by decide +kernel
theorem d_Scene_isLostForLong_6 : decode b_Scene_isLostForLong 6 = .ok (.iconst (-1), 1) := by decide +kernel
theorem d_Scene_isLostForLong_7 : decode b_Scene_isLostForLong 7 = .ok (.if_icmp .eq 27, 3) := by decide +kernel
theorem d_Scene_isLostForLong_10 : decode b_Scene_isLostForLong 10 = .ok (.aload_n 0, 1) := by decide +kernel
theorem d_Scene_isLostForLong_11 : decode b_Scene_isLostForLong 11 = .ok (.getfield 75, 3) := by decide +kernel
theorem d_Scene_isLostForLong_14 : decode b_Scene_isLostForLong 14 = .ok (.aload_n 0, 1) := by decide +kernel
theorem d_Scene_isLostForLong_15 : decode b_Scene_isLostForLong 15 = .ok (.getfield 30, 3) := by decide +kernel
theorem d_Scene_isLostForLong_18 : decode b_Scene_isLostForLong 18 = .ok (.iload_n 1, 1) := by decide +kernel
theorem d_Scene_isLostForLong_19 : decode b_Scene_isLostForLong 19 = .ok (.iaload, 1) := by decide +kernel
theorem d_Scene_isLostForLong_20 : decode b_Scene_isLostForLong 20 = .ok (.isub, 1) := by decide +kernel
theorem d_Scene_isLostForLong_21 : decode b_Scene_isLostForLong 21 = .ok (.aload_n 0, 1) := by decide +kernel
theorem d_Scene_isLostForLong_22 : decode b_Scene_isLostForLong 22 = .ok (.getfield 24, 3) := by decide +kernel
theorem d_Scene_isLostForLong_25 : decode b_Scene_isLostForLong 25 = .ok (.iload_n 1, 1) := by decide +kernel
theorem d_Scene_isLostForLong_26 : decode b_Scene_isLostForLong 26 = .ok (.iaload, 1) := by decide +kernel
theorem d_Scene_isLostForLong_27 : decode b_Scene_isLostForLong 27 = .ok (.if_icmp .le 7, 3) := by decide +kernel
theorem d_Scene_isLostForLong_30 : decode b_Scene_isLostForLong 30 = .ok (.iconst 1, 1) := by decide +kernel
theorem d_Scene_isLostForLong_31 : decode b_Scene_isLostForLong 31 = .ok (.goto 4, 3) := by decide +kernel
theorem d_Scene_isLostForLong_34 : decode b_Scene_isLostForLong 34 = .ok (.iconst 0, 1) := by decide +kernel
theorem d_Scene_isLostForLong_35 : decode b_Scene_isLostForLong 35 = .ok (.ireturn, 1) := by decide +kernel
theorem v_Scene_isLostForLong : dk_Yv y_Scene_isLostForLong b_Scene_isLostForLong 2 (some .boolean) 1 := ⟨dk_in (List.mem_of_getElem? (i := 754) (by decide +kernel)) rfl, dk_in (List.mem_of_getElem? (i := 27) (by decide +kernel)) rfl, dk_in (List.mem_of_getElem? (i := 72) (by decide +kernel)) rfl, dk_in (List.mem_of_getElem? (i := 755) (by decide +kernel)) rfl, by decide +kernel, by decide +kernel, by decide +kernel⟩
abbrev rm_Scene_isLostForLong : Room := { frames := 0, cells := 0, slots := 0, locals := 0 }
def B_Scene_isLostForLong_0 (n T : Nat)  (x1 : Int32) (S : dk_S) : Option (Int32 × dk_S) :=
  dk_r 44 (S 25) x1 fun v1 => if v1 = (-1 : Int32) then (dk_b (0 : Int32) (some ((0 : Int32), S))) else (dk_r 44 (S 25) x1 fun v2 => dk_r 44 (S 23) x1 fun v3 => if ((S 116 0) - v2) ≤ v3 then (dk_b (0 : Int32) (some ((0 : Int32), S))) else (dk_b (1 : Int32) (some ((1 : Int32), S))))
set_option maxRecDepth 20000 in
theorem kb_Scene_isLostForLong_0 {p : Program} {l : Launch} {e : Env} {s : State} {m : MethodId} {args : Array Value} {below : List Frame} {meth : Method} {c : Code} {g : dk_G} {A : Nat → Prop} {Q : State → Prop} {ad : Nat → Nat} {T : Nat} {n : Nat} {res : (Int32 × dk_S)} (X : dk_X p s m args meth c b_Scene_isLostForLong 2 R_Scene (some .boolean) g A) (hR : dk_Ri p l e rm_Scene_isLostForLong s m args below meth c g A Q 2 b_Scene_isLostForLong (some .boolean) (wC g ad T) res)  {x1 : Int32} {S : dk_S}  (hF : B_Scene_isLostForLong_0 n T  x1 S = some res) : dk_J p l e rm_Scene_isLostForLong s m args below meth c g A Q 2 0 0 0 [(0, .ref (ad 18)), (1, .int x1)] [] (wC g ad T S) := by
  unfold B_Scene_isLostForLong_0 at hF
  refine dk_aload_n (k := 0) (i := 0) X 0 rfl rfl d_Scene_isLostForLong_0 ?_
  refine dk_get X q_Scene 18 9 (by decide) (oC_Scene g ad T S) rfl f_Scene_30 d_Scene_isLostForLong_1 ?_
  refine dk_iload_n (k := 1) (i := 1) X 1 rfl rfl d_Scene_isLostForLong_4 ?_
  refine dk_iald X 25 (aC_25 g ad T S) d_Scene_isLostForLong_5 hF (fun v1 hF => ?_)
  refine dk_iconst (v := -1) X (by decide) d_Scene_isLostForLong_6 ?_
  refine dk_icmp_eq (tgt := 34) X (by decide) d_Scene_isLostForLong_7 hF (fun hF => ?_) (fun hF => ?_)
  · refine dk_iconst (v := 0) X (by decide) d_Scene_isLostForLong_34 ?_
    exact dk_retz hR hF d_Scene_isLostForLong_35
  · refine dk_aload_n (k := 0) (i := 0) X 0 rfl rfl d_Scene_isLostForLong_10 ?_
    refine dk_get X q_Scene 18 12 (by decide) (oC_Scene g ad T S) rfl f_Scene_75 d_Scene_isLostForLong_11 ?_
    refine dk_aload_n (k := 0) (i := 0) X 0 rfl rfl d_Scene_isLostForLong_14 ?_
    refine dk_get X q_Scene 18 9 (by decide) (oC_Scene g ad T S) rfl f_Scene_30 d_Scene_isLostForLong_15 ?_
    refine dk_iload_n (k := 1) (i := 1) X 1 rfl rfl d_Scene_isLostForLong_18 ?_
    refine dk_iald X 25 (aC_25 g ad T S) d_Scene_isLostForLong_19 hF (fun v2 hF => ?_)
    refine dk_isub X d_Scene_isLostForLong_20 ?_
    refine dk_aload_n (k := 0) (i := 0) X 0 rfl rfl d_Scene_isLostForLong_21 ?_
    refine dk_get X q_Scene 18 7 (by decide) (oC_Scene g ad T S) rfl f_Scene_24 d_Scene_isLostForLong_22 ?_
    refine dk_iload_n (k := 1) (i := 1) X 1 rfl rfl d_Scene_isLostForLong_25 ?_
    refine dk_iald X 23 (aC_23 g ad T S) d_Scene_isLostForLong_26 hF (fun v3 hF => ?_)
    refine dk_icmp_le (tgt := 34) X (by decide) d_Scene_isLostForLong_27 hF (fun hF => ?_) (fun hF => ?_)
    · refine dk_iconst (v := 0) X (by decide) d_Scene_isLostForLong_34 ?_
      exact dk_retz hR hF d_Scene_isLostForLong_35
    · refine dk_iconst (v := 1) X (by decide) d_Scene_isLostForLong_30 ?_
      refine dk_goto (tgt := 35) X (by decide) d_Scene_isLostForLong_31 ?_
      exact dk_retz hR hF d_Scene_isLostForLong_35
def F_Scene_isLostForLong (n T : Nat) (x1 : Int32) (S : dk_S) : Option (Int32 × dk_S) := B_Scene_isLostForLong_0 n T x1 S
theorem c_Scene_isLostForLong (l : Launch) (g : dk_G) (ad : Nat → Nat) (T n : Nat) (x1 : Int32)  (S : dk_S) : dk_Mi l g y_Scene_isLostForLong b_Scene_isLostForLong 2 rm_Scene_isLostForLong (some .boolean) [.ref (ad 18), .int x1] (wC g ad T) S (F_Scene_isLostForLong n T x1 S) := dk_enteri (by decide) (Nat.le_of_ble_eq_true rfl) (fun p e s m args below meth c A Q res hF X hR => (kb_Scene_isLostForLong_0 (n := n) X hR  hF))
abbrev b_Scene_isOnItsPlace : ByteArray := prog_7_method_20_code
def y_Scene_isOnItsPlace : MethodName := ⟨R_Scene, "isOnItsPlace", "(I)Z"⟩
theorem d_Scene_isOnItsPlace_0 : decode b_Scene_isOnItsPlace 0 = .ok (.aload_n 0, 1) := by decide +kernel
theorem d_Scene_isOnItsPlace_1 : decode b_Scene_isOnItsPlace 1 = .ok (.getfield 37, 3) := by decide +kernel
theorem d_Scene_isOnItsPlace_4 : decode b_Scene_isOnItsPlace 4 = .ok (.aload_n 0, 1) := by decide +kernel
theorem d_Scene_isOnItsPlace_5 : decode b_Scene_isOnItsPlace 5 = .ok (.getfield 18, 3) := by decide +kernel
theorem d_Scene_isOnItsPlace_8 : decode b_Scene_isOnItsPlace 8 = .ok (.iload_n 1, 1) := by decide +kernel
theorem d_Scene_isOnItsPlace_9 : decode b_Scene_isOnItsPlace 9 = .ok (.iaload, 1) := by decide +kernel
theorem d_Scene_isOnItsPlace_10 : decode b_Scene_isOnItsPlace 10 = .ok (.iaload, 1) := by decide +kernel
theorem d_Scene_isOnItsPlace_11 : decode b_Scene_isOnItsPlace 11 = .ok (.aload_n 0, 1) := by decide +kernel
theorem d_Scene_isOnItsPlace_12 : decode b_Scene_isOnItsPlace 12 = .ok (.getfield 27, 3) := by decide +kernel
theorem d_Scene_isOnItsPlace_15 : decode b_Scene_isOnItsPlace 15 = .ok (.iload_n 1, 1) := by decide +kernel
theorem d_Scene_isOnItsPlace_16 : decode b_Scene_isOnItsPlace 16 = .ok (.iaload, 1) := by decide +kernel
theorem d_Scene_isOnItsPlace_17 : decode b_Scene_isOnItsPlace 17 = .ok (.if_icmp .ne 29, 3) := by decide +kernel
theorem d_Scene_isOnItsPlace_20 : decode b_Scene_isOnItsPlace 20 = .ok (.aload_n 0, 1) := by decide +kernel
theorem d_Scene_isOnItsPlace_21 : decode b_Scene_isOnItsPlace 21 = .ok (.getfield 46, 3) := by decide +kernel
theorem d_Scene_isOnItsPlace_24 : decode b_Scene_isOnItsPlace 24 = .ok (.aload_n 0, 1) := by decide +kernel
theorem d_Scene_isOnItsPlace_25 : decode b_Scene_isOnItsPlace 25 = .ok (.getfield 27, 3) := by decide +kernel
theorem d_Scene_isOnItsPlace_28 : decode b_Scene_isOnItsPlace 28 = .ok (.iload_n 1, 1) := by decide +kernel
theorem d_Scene_isOnItsPlace_29 : decode b_Scene_isOnItsPlace 29 = .ok (.iaload, 1) := by decide +kernel
theorem d_Scene_isOnItsPlace_30 : decode b_Scene_isOnItsPlace 30 = .ok (.invokevirtual 139, 3) := by decide +kernel
theorem d_Scene_isOnItsPlace_33 : decode b_Scene_isOnItsPlace 33 = .ok (.aload_n 0, 1) := by decide +kernel
theorem d_Scene_isOnItsPlace_34 : decode b_Scene_isOnItsPlace 34 = .ok (.getfield 15, 3) := by decide +kernel
theorem d_Scene_isOnItsPlace_37 : decode b_Scene_isOnItsPlace 37 = .ok (.iload_n 1, 1) := by decide +kernel
theorem d_Scene_isOnItsPlace_38 : decode b_Scene_isOnItsPlace 38 = .ok (.iaload, 1) := by decide +kernel
theorem d_Scene_isOnItsPlace_39 : decode b_Scene_isOnItsPlace 39 = .ok (.if_icmp .ne 7, 3) := by decide +kernel
theorem d_Scene_isOnItsPlace_42 : decode b_Scene_isOnItsPlace 42 = .ok (.iconst 1, 1) := by decide +kernel
theorem d_Scene_isOnItsPlace_43 : decode b_Scene_isOnItsPlace 43 = .ok (.goto 4, 3) := by decide +kernel
theorem d_Scene_isOnItsPlace_46 : decode b_Scene_isOnItsPlace 46 = .ok (.iconst 0, 1) := by decide +kernel
theorem d_Scene_isOnItsPlace_47 : decode b_Scene_isOnItsPlace 47 = .ok (.ireturn, 1) := by decide +kernel
theorem v_Scene_isOnItsPlace : dk_Yv y_Scene_isOnItsPlace b_Scene_isOnItsPlace 2 (some .boolean) 1 := ⟨dk_in (List.mem_of_getElem? (i := 758) (by decide +kernel)) rfl, dk_in (List.mem_of_getElem? (i := 28) (by decide +kernel)) rfl, dk_in (List.mem_of_getElem? (i := 72) (by decide +kernel)) rfl, dk_in (List.mem_of_getElem? (i := 759) (by decide +kernel)) rfl, by decide +kernel, by decide +kernel, by decide +kernel⟩
abbrev rm_Scene_isOnItsPlace : Room := { frames := 1, cells := 0, slots := 0, locals := 21 }
def B_Scene_isOnItsPlace_0 (n T : Nat)  (x1 : Int32) (S : dk_S) : Option (Int32 × dk_S) :=
  dk_r 44 (S 21) x1 fun v1 => dk_r 6 (S 27) v1 fun v2 => dk_r 44 (S 24) x1 fun v3 => if ¬ v2 = v3 then (dk_b (0 : Int32) (some ((0 : Int32), S))) else (dk_r 44 (S 24) x1 fun v4 => dk_c (F_Land_ownerOf n T v4 S) fun r6 S5 => dk_r 44 (S5 20) x1 fun v7 => if ¬ r6 = v7 then (dk_b (0 : Int32) (some ((0 : Int32), S5))) else (dk_b (1 : Int32) (some ((1 : Int32), S5))))
set_option maxRecDepth 20000 in
theorem kb_Scene_isOnItsPlace_0 {p : Program} {l : Launch} {e : Env} {s : State} {m : MethodId} {args : Array Value} {below : List Frame} {meth : Method} {c : Code} {g : dk_G} {A : Nat → Prop} {Q : State → Prop} {ad : Nat → Nat} {T : Nat} {n : Nat} {res : (Int32 × dk_S)} (X : dk_X p s m args meth c b_Scene_isOnItsPlace 2 R_Scene (some .boolean) g A) (hR : dk_Ri p l e rm_Scene_isOnItsPlace s m args below meth c g A Q 2 b_Scene_isOnItsPlace (some .boolean) (wC g ad T) res)  {x1 : Int32} {S : dk_S}  (hF : B_Scene_isOnItsPlace_0 n T  x1 S = some res) : dk_J p l e rm_Scene_isOnItsPlace s m args below meth c g A Q 2 0 0 0 [(0, .ref (ad 18)), (1, .int x1)] [] (wC g ad T S) := by
  unfold B_Scene_isOnItsPlace_0 at hF
  refine dk_aload_n (k := 0) (i := 0) X 0 rfl rfl d_Scene_isOnItsPlace_0 ?_
  refine dk_get X q_Scene 18 13 (by decide) (oC_Scene g ad T S) rfl f_Scene_37 d_Scene_isOnItsPlace_1 ?_
  refine dk_aload_n (k := 0) (i := 0) X 0 rfl rfl d_Scene_isOnItsPlace_4 ?_
  refine dk_get X q_Scene 18 5 (by decide) (oC_Scene g ad T S) rfl f_Scene_18 d_Scene_isOnItsPlace_5 ?_
  refine dk_iload_n (k := 1) (i := 1) X 1 rfl rfl d_Scene_isOnItsPlace_8 ?_
  refine dk_iald X 21 (aC_21 g ad T S) d_Scene_isOnItsPlace_9 hF (fun v1 hF => ?_)
  refine dk_iald X 27 (aC_27 g ad T S) d_Scene_isOnItsPlace_10 hF (fun v2 hF => ?_)
  refine dk_aload_n (k := 0) (i := 0) X 0 rfl rfl d_Scene_isOnItsPlace_11 ?_
  refine dk_get X q_Scene 18 8 (by decide) (oC_Scene g ad T S) rfl f_Scene_27 d_Scene_isOnItsPlace_12 ?_
  refine dk_iload_n (k := 1) (i := 1) X 1 rfl rfl d_Scene_isOnItsPlace_15 ?_
  refine dk_iald X 24 (aC_24 g ad T S) d_Scene_isOnItsPlace_16 hF (fun v3 hF => ?_)
  refine dk_icmp_ne (tgt := 46) X (by decide) d_Scene_isOnItsPlace_17 hF (fun hF => ?_) (fun hF => ?_)
  · refine dk_iconst (v := 0) X (by decide) d_Scene_isOnItsPlace_46 ?_
    exact dk_retz hR hF d_Scene_isOnItsPlace_47
  · refine dk_aload_n (k := 0) (i := 0) X 0 rfl rfl d_Scene_isOnItsPlace_20 ?_
    refine dk_get X q_Scene 18 0 (by decide) (oC_Scene g ad T S) rfl f_Scene_46 d_Scene_isOnItsPlace_21 ?_
    refine dk_aload_n (k := 0) (i := 0) X 0 rfl rfl d_Scene_isOnItsPlace_24 ?_
    refine dk_get X q_Scene 18 8 (by decide) (oC_Scene g ad T S) rfl f_Scene_27 d_Scene_isOnItsPlace_25 ?_
    refine dk_iload_n (k := 1) (i := 1) X 1 rfl rfl d_Scene_isOnItsPlace_28 ?_
    refine dk_iald X 24 (aC_24 g ad T S) d_Scene_isOnItsPlace_29 hF (fun v4 hF => ?_)
    refine dk_callVi X v_Land_ownerOf [.int v4] (c_Land_ownerOf l g ad T n v4 S) 1 (oC_Land g ad T S) rfl rfl m_Scene_139 rfl rfl ⟨rfl, rfl, Nat.le_of_ble_eq_true rfl, Nat.le_of_ble_eq_true rfl, Nat.le_refl _, Nat.le_refl _⟩ (Nat.le_of_ble_eq_true rfl) d_Scene_isOnItsPlace_30 hF (fun r6 S5 hF => ?_)
    refine dk_aload_n (k := 0) (i := 0) X 0 rfl rfl d_Scene_isOnItsPlace_33 ?_
    refine dk_get X q_Scene 18 4 (by decide) (oC_Scene g ad T S5) rfl f_Scene_15 d_Scene_isOnItsPlace_34 ?_
    refine dk_iload_n (k := 1) (i := 1) X 1 rfl rfl d_Scene_isOnItsPlace_37 ?_
    refine dk_iald X 20 (aC_20 g ad T S5) d_Scene_isOnItsPlace_38 hF (fun v7 hF => ?_)
    refine dk_icmp_ne (tgt := 46) X (by decide) d_Scene_isOnItsPlace_39 hF (fun hF => ?_) (fun hF => ?_)
    · refine dk_iconst (v := 0) X (by decide) d_Scene_isOnItsPlace_46 ?_
      exact dk_retz hR hF d_Scene_isOnItsPlace_47
    · refine dk_iconst (v := 1) X (by decide) d_Scene_isOnItsPlace_42 ?_
      refine dk_goto (tgt := 47) X (by decide) d_Scene_isOnItsPlace_43 ?_
      exact dk_retz hR hF d_Scene_isOnItsPlace_47
def F_Scene_isOnItsPlace (n T : Nat) (x1 : Int32) (S : dk_S) : Option (Int32 × dk_S) := B_Scene_isOnItsPlace_0 n T x1 S
theorem c_Scene_isOnItsPlace (l : Launch) (g : dk_G) (ad : Nat → Nat) (T n : Nat) (x1 : Int32)  (S : dk_S) : dk_Mi l g y_Scene_isOnItsPlace b_Scene_isOnItsPlace 2 rm_Scene_isOnItsPlace (some .boolean) [.ref (ad 18), .int x1] (wC g ad T) S (F_Scene_isOnItsPlace n T x1 S) := dk_enteri (by decide) (Nat.le_of_ble_eq_true rfl) (fun p e s m args below meth c A Q res hF X hR => (kb_Scene_isOnItsPlace_0 (n := n) X hR  hF))
end
section
abbrev b_Scene_stands : ByteArray := prog_7_method_18_code
def y_Scene_stands : MethodName := ⟨R_Scene, "stands", "(I)Z"⟩
theorem d_Scene_stands_0 : decode b_Scene_stands 0 = .ok (.aload_n 0, 1) := by decide +kernel
theorem d_Scene_stands_1 : decode b_Scene_stands 1 = .ok (.getfield 33, 3) := by decide +kernel
theorem d_Scene_stands_4 : decode b_Scene_stands 4 = .ok (.iload_n 1, 1) := by decide +kernel
theorem d_Scene_stands_5 : decode b_Scene_stands 5 = .ok (.baload, 1) := by decide +kernel
theorem d_Scene_stands_6 : decode b_Scene_stands 6 = .ok (.ifCond .eq 5, 3) := by decide +kernel
theorem d_Scene_stands_9 : decode b_Scene_stands 9 = .ok (.iconst 0, 1) := by decide +kernel
theorem d_Scene_stands_10 : decode b_Scene_stands 10 = .ok (.ireturn, 1) := by decide +kernel
theorem d_Scene_stands_11 : decode b_Scene_stands 11 = .ok (.aload_n 0, 1) := by decide +kernel
theorem d_Scene_stands_12 : decode b_Scene_stands 12 = .ok (.getfield 18, 3) := by decide +kernel
theorem d_Scene_stands_15 : decode b_Scene_stands 15 = .ok (.iload_n 1, 1) := by decide +kernel
theorem d_Scene_stands_16 : decode b_Scene_stands 16 = .ok (.iaload, 1) := by decide +kernel
theorem d_Scene_stands_17 : decode b_Scene_stands 17 = .ok (.istore_n 2, 1) := by decide +kernel
theorem d_Scene_stands_18 : decode b_Scene_stands 18 = .ok (.aload_n 0, 1) := by decide +kernel
theorem d_Scene_stands_19 : decode b_Scene_stands 19 = .ok (.getfield 9, 3) := by decide +kernel
theorem d_Scene_stands_22 : decode b_Scene_stands 22 = .ok (.iload_n 1, 1) := by decide +kernel
theorem d_Scene_stands_23 : decode b_Scene_stands 23 = .ok (.iaload, 1) := by decide +kernel
theorem d_Scene_stands_24 : decode b_Scene_stands 24 = .ok (.tableswitch 180 1 5 #[36, 72, 106, 108, 140], 36) := by decide +kernel
theorem d_Scene_stands_60 : decode b_Scene_stands 60 = .ok (.aload_n 0, 1) := by decide +kernel
theorem d_Scene_stands_61 : decode b_Scene_stands 61 = .ok (.getfield 30, 3) := by decide +kernel
theorem d_Scene_stands_64 : decode b_Scene_stands 64 = .ok (.iload_n 1, 1) := by decide +kernel
theorem d_Scene_stands_65 : decode b_Scene_stands 65 = .ok (.iaload, 1) := by decide +kernel
theorem d_Scene_stands_66 : decode b_Scene_stands 66 = .ok (.iconst (-1), 1) := by decide +kernel
theorem d_Scene_stands_67 : decode b_Scene_stands 67 = .ok (.if_icmp .ne 27, 3) := by decide +kernel
theorem d_Scene_stands_70 : decode b_Scene_stands 70 = .ok (.aload_n 0, 1) := by decide +kernel
theorem d_Scene_stands_71 : decode b_Scene_stands 71 = .ok (.aload_n 0, 1) := by decide +kernel
theorem d_Scene_stands_72 : decode b_Scene_stands 72 = .ok (.getfield 15, 3) := by decide +kernel
theorem d_Scene_stands_75 : decode b_Scene_stands 75 = .ok (.iload_n 1, 1) := by decide +kernel
theorem d_Scene_stands_76 : decode b_Scene_stands 76 = .ok (.iaload, 1) := by decide +kernel
theorem d_Scene_stands_77 : decode b_Scene_stands 77 = .ok (.aload_n 0, 1) := by decide +kernel
theorem d_Scene_stands_78 : decode b_Scene_stands 78 = .ok (.getfield 37, 3) := by decide +kernel
theorem d_Scene_stands_81 : decode b_Scene_stands 81 = .ok (.iload_n 2, 1) := by decide +kernel
theorem d_Scene_stands_82 : decode b_Scene_stands 82 = .ok (.iaload, 1) := by decide +kernel
theorem d_Scene_stands_83 : decode b_Scene_stands 83 = .ok (.iload_n 2, 1) := by decide +kernel
theorem d_Scene_stands_84 : decode b_Scene_stands 84 = .ok (.invokevirtual 150, 3) := by decide +kernel
theorem d_Scene_stands_87 : decode b_Scene_stands 87 = .ok (.ifCond .eq 7, 3) := by decide +kernel
theorem d_Scene_stands_90 : decode b_Scene_stands 90 = .ok (.iconst 1, 1) := by decide +kernel
theorem d_Scene_stands_91 : decode b_Scene_stands 91 = .ok (.goto 4, 3) := by decide +kernel
theorem d_Scene_stands_94 : decode b_Scene_stands 94 = .ok (.iconst 0, 1) := by decide +kernel
theorem d_Scene_stands_95 : decode b_Scene_stands 95 = .ok (.ireturn, 1) := by decide +kernel
theorem d_Scene_stands_96 : decode b_Scene_stands 96 = .ok (.aload_n 0, 1) := by decide +kernel
theorem d_Scene_stands_97 : decode b_Scene_stands 97 = .ok (.iload_n 1, 1) := by decide +kernel
theorem d_Scene_stands_98 : decode b_Scene_stands 98 = .ok (.invokevirtual 154, 3) := by decide +kernel
theorem d_Scene_stands_101 : decode b_Scene_stands 101 = .ok (.ifCond .ne 27, 3) := by decide +kernel
theorem d_Scene_stands_104 : decode b_Scene_stands 104 = .ok (.aload_n 0, 1) := by decide +kernel
theorem d_Scene_stands_105 : decode b_Scene_stands 105 = .ok (.aload_n 0, 1) := by decide +kernel
theorem d_Scene_stands_106 : decode b_Scene_stands 106 = .ok (.getfield 15, 3) := by decide +kernel
theorem d_Scene_stands_109 : decode b_Scene_stands 109 = .ok (.iload_n 1, 1) := by decide +kernel
theorem d_Scene_stands_110 : decode b_Scene_stands 110 = .ok (.iaload, 1) := by decide +kernel
theorem d_Scene_stands_111 : decode b_Scene_stands 111 = .ok (.aload_n 0, 1) := by decide +kernel
theorem d_Scene_stands_112 : decode b_Scene_stands 112 = .ok (.getfield 37, 3) := by decide +kernel
theorem d_Scene_stands_115 : decode b_Scene_stands 115 = .ok (.iload_n 2, 1) := by decide +kernel
theorem d_Scene_stands_116 : decode b_Scene_stands 116 = .ok (.iaload, 1) := by decide +kernel
theorem d_Scene_stands_117 : decode b_Scene_stands 117 = .ok (.iload_n 2, 1) := by decide +kernel
theorem d_Scene_stands_118 : decode b_Scene_stands 118 = .ok (.invokevirtual 150, 3) := by decide +kernel
theorem d_Scene_stands_121 : decode b_Scene_stands 121 = .ok (.ifCond .eq 7, 3) := by decide +kernel
theorem d_Scene_stands_124 : decode b_Scene_stands 124 = .ok (.iconst 1, 1) := by decide +kernel
theorem d_Scene_stands_125 : decode b_Scene_stands 125 = .ok (.goto 4, 3) := by decide +kernel
theorem d_Scene_stands_128 : decode b_Scene_stands 128 = .ok (.iconst 0, 1) := by decide +kernel
theorem d_Scene_stands_129 : decode b_Scene_stands 129 = .ok (.ireturn, 1) := by decide +kernel
theorem d_Scene_stands_130 : decode b_Scene_stands 130 = .ok (.iconst 1, 1) := by decide +kernel
theorem d_Scene_stands_131 : decode b_Scene_stands 131 = .ok (.ireturn, 1) := by decide +kernel
theorem d_Scene_stands_132 : decode b_Scene_stands 132 = .ok (.aload_n 0, 1) := by decide +kernel
theorem d_Scene_stands_133 : decode b_Scene_stands 133 = .ok (.getfield 30, 3) := by decide +kernel
theorem d_Scene_stands_136 : decode b_Scene_stands 136 = .ok (.iload_n 1, 1) := by decide +kernel
theorem d_Scene_stands_137 : decode b_Scene_stands 137 = .ok (.iaload, 1) := by decide +kernel
theorem d_Scene_stands_138 : decode b_Scene_stands 138 = .ok (.iconst (-1), 1) := by decide +kernel
theorem d_Scene_stands_139 : decode b_Scene_stands 139 = .ok (.if_icmp .ne 23, 3) := by decide +kernel
theorem d_Scene_stands_142 : decode b_Scene_stands 142 = .ok (.aload_n 0, 1) := by decide +kernel
theorem d_Scene_stands_143 : decode b_Scene_stands 143 = .ok (.iload_n 1, 1) := by decide +kernel
theorem d_Scene_stands_144 : decode b_Scene_stands 144 = .ok (.invokevirtual 157, 3) := by decide +kernel
theorem d_Scene_stands_147 : decode b_Scene_stands 147 = .ok (.ifCond .eq 15, 3) := by decide +kernel
theorem d_Scene_stands_150 : decode b_Scene_stands 150 = .ok (.aload_n 0, 1) := by decide +kernel
theorem d_Scene_stands_151 : decode b_Scene_stands 151 = .ok (.iload_n 2, 1) := by decide +kernel
theorem d_Scene_stands_152 : decode b_Scene_stands 152 = .ok (.invokevirtual 160, 3) := by decide +kernel
theorem d_Scene_stands_155 : decode b_Scene_stands 155 = .ok (.ifCond .ne 7, 3) := by decide +kernel
theorem d_Scene_stands_158 : decode b_Scene_stands 158 = .ok (.iconst 1, 1) := by decide +kernel
theorem d_Scene_stands_159 : decode b_Scene_stands 159 = .ok (.goto 4, 3) := by decide +kernel
theorem d_Scene_stands_162 : decode b_Scene_stands 162 = .ok (.iconst 0, 1) := by decide +kernel
theorem d_Scene_stands_163 : decode b_Scene_stands 163 = .ok (.ireturn, 1) := by decide +kernel
theorem d_Scene_stands_164 : decode b_Scene_stands 164 = .ok (.aload_n 0, 1) := by decide +kernel
theorem d_Scene_stands_165 : decode b_Scene_stands 165 = .ok (.getfield 37, 3) := by decide +kernel
theorem d_Scene_stands_168 : decode b_Scene_stands 168 = .ok (.iload_n 2, 1) := by decide +kernel
theorem d_Scene_stands_169 : decode b_Scene_stands 169 = .ok (.iaload, 1) := by decide +kernel
theorem d_Scene_stands_170 : decode b_Scene_stands 170 = .ok (.aload_n 0, 1) := by decide +kernel
theorem d_Scene_stands_171 : decode b_Scene_stands 171 = .ok (.getfield 46, 3) := by decide +kernel
theorem d_Scene_stands_174 : decode b_Scene_stands 174 = .ok (.getfield 83, 3) := by decide +kernel
theorem d_Scene_stands_177 : decode b_Scene_stands 177 = .ok (.iload_n 2, 1) := by decide +kernel
theorem d_Scene_stands_178 : decode b_Scene_stands 178 = .ok (.iaload, 1) := by decide +kernel
theorem d_Scene_stands_179 : decode b_Scene_stands 179 = .ok (.if_icmp .eq 19, 3) := by decide +kernel
theorem d_Scene_stands_182 : decode b_Scene_stands 182 = .ok (.aload_n 0, 1) := by decide +kernel
theorem d_Scene_stands_183 : decode b_Scene_stands 183 = .ok (.getfield 75, 3) := by decide +kernel
theorem d_Scene_stands_186 : decode b_Scene_stands 186 = .ok (.aload_n 0, 1) := by decide +kernel
theorem d_Scene_stands_187 : decode b_Scene_stands 187 = .ok (.getfield 40, 3) := by decide +kernel
theorem d_Scene_stands_190 : decode b_Scene_stands 190 = .ok (.iload_n 2, 1) := by decide +kernel
theorem d_Scene_stands_191 : decode b_Scene_stands 191 = .ok (.iaload, 1) := by decide +kernel
theorem d_Scene_stands_192 : decode b_Scene_stands 192 = .ok (.isub, 1) := by decide +kernel
theorem d_Scene_stands_193 : decode b_Scene_stands 193 = .ok (.bipush 30, 2) := by decide +kernel
theorem d_Scene_stands_195 : decode b_Scene_stands 195 = .ok (.if_icmp .gt 7, 3) := by decide +kernel
theorem d_Scene_stands_198 : decode b_Scene_stands 198 = .ok (.iconst 1, 1) := by decide +kernel
theorem d_Scene_stands_199 : decode b_Scene_stands 199 = .ok (.goto 4, 3) := by decide +kernel
theorem d_Scene_stands_202 : decode b_Scene_stands 202 = .ok (.iconst 0, 1) := by decide +kernel
theorem d_Scene_stands_203 : decode b_Scene_stands 203 = .ok (.ireturn, 1) := by decide +kernel
theorem d_Scene_stands_204 : decode b_Scene_stands 204 = .ok (.aload_n 0, 1) := by decide +kernel
theorem d_Scene_stands_205 : decode b_Scene_stands 205 = .ok (.getfield 30, 3) := by decide +kernel
theorem d_Scene_stands_208 : decode b_Scene_stands 208 = .ok (.iload_n 1, 1) := by decide +kernel
theorem d_Scene_stands_209 : decode b_Scene_stands 209 = .ok (.iaload, 1) := by decide +kernel
theorem d_Scene_stands_210 : decode b_Scene_stands 210 = .ok (.iconst (-1), 1) := by decide +kernel
theorem d_Scene_stands_211 : decode b_Scene_stands 211 = .ok (.if_icmp .ne 7, 3) := by decide +kernel
theorem d_Scene_stands_214 : decode b_Scene_stands 214 = .ok (.iconst 1, 1) := by decide +kernel
theorem d_Scene_stands_215 : decode b_Scene_stands 215 = .ok (.goto 4, 3) := by decide +kernel
theorem d_Scene_stands_218 : decode b_Scene_stands 218 = .ok (.iconst 0, 1) := by decide +kernel
theorem d_Scene_stands_219 : decode b_Scene_stands 219 = .ok (.ireturn, 1) := by decide +kernel
theorem v_Scene_stands : dk_Yv y_Scene_stands b_Scene_stands 3 (some .boolean) 1 := ⟨dk_in (List.mem_of_getElem? (i := 748) (by decide +kernel)) rfl, dk_in (List.mem_of_getElem? (i := 749) (by decide +kernel)) rfl, dk_in (List.mem_of_getElem? (i := 72) (by decide +kernel)) rfl, dk_in (List.mem_of_getElem? (i := 750) (by decide +kernel)) rfl, by decide +kernel, by decide +kernel, by decide +kernel⟩
abbrev rm_Scene_stands : Room := { frames := 3, cells := 0, slots := 0, locals := 70 }
theorem m_Scene_150 : Cond.methodLink R_Scene 150 y_Scene_mayFollow ∈ dk_tb := dk_in (List.mem_of_getElem? (i := 751) (by decide +kernel)) rfl
theorem m_Scene_154 : Cond.methodLink R_Scene 154 y_Scene_isLostForLong ∈ dk_tb := dk_in (List.mem_of_getElem? (i := 752) (by decide +kernel)) rfl
theorem m_Scene_157 : Cond.methodLink R_Scene 157 y_Scene_isOnItsPlace ∈ dk_tb := dk_in (List.mem_of_getElem? (i := 756) (by decide +kernel)) rfl
theorem m_Scene_160 : Cond.methodLink R_Scene 160 y_Scene_isHeld ∈ dk_tb := dk_in (List.mem_of_getElem? (i := 760) (by decide +kernel)) rfl
def B_Scene_stands_0 (n T : Nat)  (x1 : Int32) (S : dk_S) : Option (Int32 × dk_S) :=
  dk_r 44 (S 26) x1 fun v1 => if v1 = 0 then (dk_r 44 (S 21) x1 fun v2 => dk_r 44 (S 19) x1 fun v3 => if v3 = (1 : Int32) then (dk_r 44 (S 25) x1 fun v4 => if ¬ v4 = (-1 : Int32) then (dk_b (0 : Int32) (some ((0 : Int32), S))) else (dk_r 44 (S 20) x1 fun v5 => dk_r 6 (S 27) v2 fun v6 => dk_c (F_Scene_mayFollow n T v5 v6 v2 S) fun r8 S7 => if r8 = 0 then (dk_b (0 : Int32) (some ((0 : Int32), S7))) else (dk_b (1 : Int32) (some ((1 : Int32), S7))))) else (if v3 = (2 : Int32) then (dk_c (F_Scene_isLostForLong n T x1 S) fun r10 S9 => if ¬ r10 = 0 then (dk_b (0 : Int32) (some ((0 : Int32), S9))) else (dk_r 44 (S9 20) x1 fun v11 => dk_r 6 (S9 27) v2 fun v12 => dk_c (F_Scene_mayFollow n T v11 v12 v2 S9) fun r14 S13 => if r14 = 0 then (dk_b (0 : Int32) (some ((0 : Int32), S13))) else (dk_b (1 : Int32) (some ((1 : Int32), S13))))) else (if v3 = (3 : Int32) then (dk_b (1 : Int32) (some ((1 : Int32), S))) else (if v3 = (4 : Int32) then (dk_r 44 (S 25) x1 fun v15 => if ¬ v15 = (-1 : Int32) then (dk_b (0 : Int32) (some ((0 : Int32), S))) else (dk_c (F_Scene_isOnItsPlace n T x1 S) fun r17 S16 => if r17 = 0 then (dk_b (0 : Int32) (some ((0 : Int32), S16))) else (dk_c (F_Scene_isHeld n T v2 S16) fun r19 S18 => if ¬ r19 = 0 then (dk_b (0 : Int32) (some ((0 : Int32), S18))) else (dk_b (1 : Int32) (some ((1 : Int32), S18)))))) else (if v3 = (5 : Int32) then (dk_r 6 (S 27) v2 fun v20 => dk_r 6 (S 3) v2 fun v21 => if v20 = v21 then (dk_b (1 : Int32) (some ((1 : Int32), S))) else (dk_r 6 (S 28) v2 fun v22 => if (30 : Int32) < ((S 116 0) - v22) then (dk_b (0 : Int32) (some ((0 : Int32), S))) else (dk_b (1 : Int32) (some ((1 : Int32), S))))) else (dk_r 44 (S 25) x1 fun v23 => if ¬ v23 = (-1 : Int32) then (dk_b (0 : Int32) (some ((0 : Int32), S))) else (dk_b (1 : Int32) (some ((1 : Int32), S))))))))) else (dk_b (0 : Int32) (some ((0 : Int32), S)))
set_option maxRecDepth 20000 in
theorem kb_Scene_stands_0 {p : Program} {l : Launch} {e : Env} {s : State} {m : MethodId} {args : Array Value} {below : List Frame} {meth : Method} {c : Code} {g : dk_G} {A : Nat → Prop} {Q : State → Prop} {ad : Nat → Nat} {T : Nat} {n : Nat} {res : (Int32 × dk_S)} (X : dk_X p s m args meth c b_Scene_stands 3 R_Scene (some .boolean) g A) (hR : dk_Ri p l e rm_Scene_stands s m args below meth c g A Q 3 b_Scene_stands (some .boolean) (wC g ad T) res)  {x1 : Int32} {S : dk_S}  (hF : B_Scene_stands_0 n T  x1 S = some res) : dk_J p l e rm_Scene_stands s m args below meth c g A Q 3 0 0 0 [(0, .ref (ad 18)), (1, .int x1)] [] (wC g ad T S) := by
  unfold B_Scene_stands_0 at hF
  refine dk_aload_n (k := 0) (i := 0) X 0 rfl rfl d_Scene_stands_0 ?_
  refine dk_get X q_Scene 18 10 (by decide) (oC_Scene g ad T S) rfl f_Scene_33 d_Scene_stands_1 ?_
  refine dk_iload_n (k := 1) (i := 1) X 1 rfl rfl d_Scene_stands_4 ?_
  refine dk_zald X 26 (aC_26 g ad T S) d_Scene_stands_5 hF (fun v1 hF => ?_)
  refine dk_if_eq (tgt := 11) X (by decide) d_Scene_stands_6 hF (fun hF => ?_) (fun hF => ?_)
  · refine dk_aload_n (k := 0) (i := 0) X 0 rfl rfl d_Scene_stands_11 ?_
    refine dk_get X q_Scene 18 5 (by decide) (oC_Scene g ad T S) rfl f_Scene_18 d_Scene_stands_12 ?_
    refine dk_iload_n (k := 1) (i := 1) X 1 rfl rfl d_Scene_stands_15 ?_
    refine dk_iald X 21 (aC_21 g ad T S) d_Scene_stands_16 hF (fun v2 hF => ?_)
    refine dk_istore_n (k := 2) (i := 2) (lv' := [(2, .int v2), (0, .ref (ad 18)), (1, .int x1)]) X rfl (by decide) rfl d_Scene_stands_17 ?_
    refine dk_aload_n (k := 0) (i := 0) X 1 rfl rfl d_Scene_stands_18 ?_
    refine dk_get X q_Scene 18 3 (by decide) (oC_Scene g ad T S) rfl f_Scene_9 d_Scene_stands_19 ?_
    refine dk_iload_n (k := 1) (i := 1) X 2 rfl rfl d_Scene_stands_22 ?_
    refine dk_iald X 19 (aC_19 g ad T S) d_Scene_stands_23 hF (fun v3 hF => ?_)
    refine dk_if hF (fun hc1 hF => ?_) (fun hc1 hF => ?_)
    · refine dk_tsIn (v := 1) (tgt := 60) X d_Scene_stands_24 (by rw [hc1]; decide) (by decide) (by decide) rfl (by decide) ?_
      refine dk_aload_n (k := 0) (i := 0) X 1 rfl rfl d_Scene_stands_60 ?_
      refine dk_get X q_Scene 18 9 (by decide) (oC_Scene g ad T S) rfl f_Scene_30 d_Scene_stands_61 ?_
      refine dk_iload_n (k := 1) (i := 1) X 2 rfl rfl d_Scene_stands_64 ?_
      refine dk_iald X 25 (aC_25 g ad T S) d_Scene_stands_65 hF (fun v4 hF => ?_)
      refine dk_iconst (v := -1) X (by decide) d_Scene_stands_66 ?_
      refine dk_icmp_ne (tgt := 94) X (by decide) d_Scene_stands_67 hF (fun hF => ?_) (fun hF => ?_)
      · refine dk_iconst (v := 0) X (by decide) d_Scene_stands_94 ?_
        exact dk_retz hR hF d_Scene_stands_95
      · refine dk_aload_n (k := 0) (i := 0) X 1 rfl rfl d_Scene_stands_70 ?_
        refine dk_aload_n (k := 0) (i := 0) X 1 rfl rfl d_Scene_stands_71 ?_
        refine dk_get X q_Scene 18 4 (by decide) (oC_Scene g ad T S) rfl f_Scene_15 d_Scene_stands_72 ?_
        refine dk_iload_n (k := 1) (i := 1) X 2 rfl rfl d_Scene_stands_75 ?_
        refine dk_iald X 20 (aC_20 g ad T S) d_Scene_stands_76 hF (fun v5 hF => ?_)
        refine dk_aload_n (k := 0) (i := 0) X 1 rfl rfl d_Scene_stands_77 ?_
        refine dk_get X q_Scene 18 13 (by decide) (oC_Scene g ad T S) rfl f_Scene_37 d_Scene_stands_78 ?_
        refine dk_iload_n (k := 2) (i := 2) X 0 rfl rfl d_Scene_stands_81 ?_
        refine dk_iald X 27 (aC_27 g ad T S) d_Scene_stands_82 hF (fun v6 hF => ?_)
        refine dk_iload_n (k := 2) (i := 2) X 0 rfl rfl d_Scene_stands_83 ?_
        refine dk_callVi X v_Scene_mayFollow [.int v5, .int v6, .int v2] (c_Scene_mayFollow l g ad T n v5 v6 v2 S) 18 (oC_Scene g ad T S) rfl rfl m_Scene_150 rfl rfl ⟨rfl, rfl, Nat.le_of_ble_eq_true rfl, Nat.le_of_ble_eq_true rfl, Nat.le_refl _, Nat.le_refl _⟩ (Nat.le_of_ble_eq_true rfl) d_Scene_stands_84 hF (fun r8 S7 hF => ?_)
        refine dk_if_eq (tgt := 94) X (by decide) d_Scene_stands_87 hF (fun hF => ?_) (fun hF => ?_)
        · refine dk_iconst (v := 0) X (by decide) d_Scene_stands_94 ?_
          exact dk_retz hR hF d_Scene_stands_95
        · refine dk_iconst (v := 1) X (by decide) d_Scene_stands_90 ?_
          refine dk_goto (tgt := 95) X (by decide) d_Scene_stands_91 ?_
          exact dk_retz hR hF d_Scene_stands_95
    · refine dk_if hF (fun hc2 hF => ?_) (fun hc2 hF => ?_)
      · refine dk_tsIn (v := 2) (tgt := 96) X d_Scene_stands_24 (by rw [hc2]; decide) (by decide) (by decide) rfl (by decide) ?_
        refine dk_aload_n (k := 0) (i := 0) X 1 rfl rfl d_Scene_stands_96 ?_
        refine dk_iload_n (k := 1) (i := 1) X 2 rfl rfl d_Scene_stands_97 ?_
        refine dk_callVi X v_Scene_isLostForLong [.int x1] (c_Scene_isLostForLong l g ad T n x1 S) 18 (oC_Scene g ad T S) rfl rfl m_Scene_154 rfl rfl ⟨rfl, rfl, Nat.le_of_ble_eq_true rfl, Nat.le_of_ble_eq_true rfl, Nat.le_refl _, Nat.le_refl _⟩ (Nat.le_of_ble_eq_true rfl) d_Scene_stands_98 hF (fun r10 S9 hF => ?_)
        refine dk_if_ne (tgt := 128) X (by decide) d_Scene_stands_101 hF (fun hF => ?_) (fun hF => ?_)
        · refine dk_iconst (v := 0) X (by decide) d_Scene_stands_128 ?_
          exact dk_retz hR hF d_Scene_stands_129
        · refine dk_aload_n (k := 0) (i := 0) X 1 rfl rfl d_Scene_stands_104 ?_
          refine dk_aload_n (k := 0) (i := 0) X 1 rfl rfl d_Scene_stands_105 ?_
          refine dk_get X q_Scene 18 4 (by decide) (oC_Scene g ad T S9) rfl f_Scene_15 d_Scene_stands_106 ?_
          refine dk_iload_n (k := 1) (i := 1) X 2 rfl rfl d_Scene_stands_109 ?_
          refine dk_iald X 20 (aC_20 g ad T S9) d_Scene_stands_110 hF (fun v11 hF => ?_)
          refine dk_aload_n (k := 0) (i := 0) X 1 rfl rfl d_Scene_stands_111 ?_
          refine dk_get X q_Scene 18 13 (by decide) (oC_Scene g ad T S9) rfl f_Scene_37 d_Scene_stands_112 ?_
          refine dk_iload_n (k := 2) (i := 2) X 0 rfl rfl d_Scene_stands_115 ?_
          refine dk_iald X 27 (aC_27 g ad T S9) d_Scene_stands_116 hF (fun v12 hF => ?_)
          refine dk_iload_n (k := 2) (i := 2) X 0 rfl rfl d_Scene_stands_117 ?_
          refine dk_callVi X v_Scene_mayFollow [.int v11, .int v12, .int v2] (c_Scene_mayFollow l g ad T n v11 v12 v2 S9) 18 (oC_Scene g ad T S9) rfl rfl m_Scene_150 rfl rfl ⟨rfl, rfl, Nat.le_of_ble_eq_true rfl, Nat.le_of_ble_eq_true rfl, Nat.le_refl _, Nat.le_refl _⟩ (Nat.le_of_ble_eq_true rfl) d_Scene_stands_118 hF (fun r14 S13 hF => ?_)
          refine dk_if_eq (tgt := 128) X (by decide) d_Scene_stands_121 hF (fun hF => ?_) (fun hF => ?_)
          · refine dk_iconst (v := 0) X (by decide) d_Scene_stands_128 ?_
            exact dk_retz hR hF d_Scene_stands_129
          · refine dk_iconst (v := 1) X (by decide) d_Scene_stands_124 ?_
            refine dk_goto (tgt := 129) X (by decide) d_Scene_stands_125 ?_
            exact dk_retz hR hF d_Scene_stands_129
      · refine dk_if hF (fun hc3 hF => ?_) (fun hc3 hF => ?_)
        · refine dk_tsIn (v := 3) (tgt := 130) X d_Scene_stands_24 (by rw [hc3]; decide) (by decide) (by decide) rfl (by decide) ?_
          refine dk_iconst (v := 1) X (by decide) d_Scene_stands_130 ?_
          exact dk_retz hR hF d_Scene_stands_131
        · refine dk_if hF (fun hc4 hF => ?_) (fun hc4 hF => ?_)
          · refine dk_tsIn (v := 4) (tgt := 132) X d_Scene_stands_24 (by rw [hc4]; decide) (by decide) (by decide) rfl (by decide) ?_
            refine dk_aload_n (k := 0) (i := 0) X 1 rfl rfl d_Scene_stands_132 ?_
            refine dk_get X q_Scene 18 9 (by decide) (oC_Scene g ad T S) rfl f_Scene_30 d_Scene_stands_133 ?_
            refine dk_iload_n (k := 1) (i := 1) X 2 rfl rfl d_Scene_stands_136 ?_
            refine dk_iald X 25 (aC_25 g ad T S) d_Scene_stands_137 hF (fun v15 hF => ?_)
            refine dk_iconst (v := -1) X (by decide) d_Scene_stands_138 ?_
            refine dk_icmp_ne (tgt := 162) X (by decide) d_Scene_stands_139 hF (fun hF => ?_) (fun hF => ?_)
            · refine dk_iconst (v := 0) X (by decide) d_Scene_stands_162 ?_
              exact dk_retz hR hF d_Scene_stands_163
            · refine dk_aload_n (k := 0) (i := 0) X 1 rfl rfl d_Scene_stands_142 ?_
              refine dk_iload_n (k := 1) (i := 1) X 2 rfl rfl d_Scene_stands_143 ?_
              refine dk_callVi X v_Scene_isOnItsPlace [.int x1] (c_Scene_isOnItsPlace l g ad T n x1 S) 18 (oC_Scene g ad T S) rfl rfl m_Scene_157 rfl rfl ⟨rfl, rfl, Nat.le_of_ble_eq_true rfl, Nat.le_of_ble_eq_true rfl, Nat.le_refl _, Nat.le_refl _⟩ (Nat.le_of_ble_eq_true rfl) d_Scene_stands_144 hF (fun r17 S16 hF => ?_)
              refine dk_if_eq (tgt := 162) X (by decide) d_Scene_stands_147 hF (fun hF => ?_) (fun hF => ?_)
              · refine dk_iconst (v := 0) X (by decide) d_Scene_stands_162 ?_
                exact dk_retz hR hF d_Scene_stands_163
              · refine dk_aload_n (k := 0) (i := 0) X 1 rfl rfl d_Scene_stands_150 ?_
                refine dk_iload_n (k := 2) (i := 2) X 0 rfl rfl d_Scene_stands_151 ?_
                refine dk_callVi X v_Scene_isHeld [.int v2] (c_Scene_isHeld l g ad T n v2 S16) 18 (oC_Scene g ad T S16) rfl rfl m_Scene_160 rfl rfl ⟨rfl, rfl, Nat.le_of_ble_eq_true rfl, Nat.le_of_ble_eq_true rfl, Nat.le_refl _, Nat.le_refl _⟩ (Nat.le_of_ble_eq_true rfl) d_Scene_stands_152 hF (fun r19 S18 hF => ?_)
                refine dk_if_ne (tgt := 162) X (by decide) d_Scene_stands_155 hF (fun hF => ?_) (fun hF => ?_)
                · refine dk_iconst (v := 0) X (by decide) d_Scene_stands_162 ?_
                  exact dk_retz hR hF d_Scene_stands_163
                · refine dk_iconst (v := 1) X (by decide) d_Scene_stands_158 ?_
                  refine dk_goto (tgt := 163) X (by decide) d_Scene_stands_159 ?_
                  exact dk_retz hR hF d_Scene_stands_163
          · refine dk_if hF (fun hc5 hF => ?_) (fun hc5 hF => ?_)
            · refine dk_tsIn (v := 5) (tgt := 164) X d_Scene_stands_24 (by rw [hc5]; decide) (by decide) (by decide) rfl (by decide) ?_
              refine dk_aload_n (k := 0) (i := 0) X 1 rfl rfl d_Scene_stands_164 ?_
              refine dk_get X q_Scene 18 13 (by decide) (oC_Scene g ad T S) rfl f_Scene_37 d_Scene_stands_165 ?_
              refine dk_iload_n (k := 2) (i := 2) X 0 rfl rfl d_Scene_stands_168 ?_
              refine dk_iald X 27 (aC_27 g ad T S) d_Scene_stands_169 hF (fun v20 hF => ?_)
              refine dk_aload_n (k := 0) (i := 0) X 1 rfl rfl d_Scene_stands_170 ?_
              refine dk_get X q_Scene 18 0 (by decide) (oC_Scene g ad T S) rfl f_Scene_46 d_Scene_stands_171 ?_
              refine dk_get X q_Land 1 1 (by decide) (oC_Land g ad T S) rfl f_Scene_83 d_Scene_stands_174 ?_
              refine dk_iload_n (k := 2) (i := 2) X 0 rfl rfl d_Scene_stands_177 ?_
              refine dk_iald X 3 (aC_3 g ad T S) d_Scene_stands_178 hF (fun v21 hF => ?_)
              refine dk_icmp_eq (tgt := 198) X (by decide) d_Scene_stands_179 hF (fun hF => ?_) (fun hF => ?_)
              · refine dk_iconst (v := 1) X (by decide) d_Scene_stands_198 ?_
                refine dk_goto (tgt := 203) X (by decide) d_Scene_stands_199 ?_
                exact dk_retz hR hF d_Scene_stands_203
              · refine dk_aload_n (k := 0) (i := 0) X 1 rfl rfl d_Scene_stands_182 ?_
                refine dk_get X q_Scene 18 12 (by decide) (oC_Scene g ad T S) rfl f_Scene_75 d_Scene_stands_183 ?_
                refine dk_aload_n (k := 0) (i := 0) X 1 rfl rfl d_Scene_stands_186 ?_
                refine dk_get X q_Scene 18 14 (by decide) (oC_Scene g ad T S) rfl f_Scene_40 d_Scene_stands_187 ?_
                refine dk_iload_n (k := 2) (i := 2) X 0 rfl rfl d_Scene_stands_190 ?_
                refine dk_iald X 28 (aC_28 g ad T S) d_Scene_stands_191 hF (fun v22 hF => ?_)
                refine dk_isub X d_Scene_stands_192 ?_
                refine dk_bipush (v := 30) X (by decide) d_Scene_stands_193 ?_
                refine dk_icmp_gt (tgt := 202) X (by decide) d_Scene_stands_195 hF (fun hF => ?_) (fun hF => ?_)
                · refine dk_iconst (v := 0) X (by decide) d_Scene_stands_202 ?_
                  exact dk_retz hR hF d_Scene_stands_203
                · refine dk_iconst (v := 1) X (by decide) d_Scene_stands_198 ?_
                  refine dk_goto (tgt := 203) X (by decide) d_Scene_stands_199 ?_
                  exact dk_retz hR hF d_Scene_stands_203
            · refine dk_tsOut (tgt := 204) X d_Scene_stands_24 (by have e1 := lv_neT hc1 (a := 1) (by decide); have e2 := lv_neT hc2 (a := 2) (by decide); have e3 := lv_neT hc3 (a := 3) (by decide); have e4 := lv_neT hc4 (a := 4) (by decide); have e5 := lv_neT hc5 (a := 5) (by decide); omega) (by decide) ?_
              refine dk_aload_n (k := 0) (i := 0) X 1 rfl rfl d_Scene_stands_204 ?_
              refine dk_get X q_Scene 18 9 (by decide) (oC_Scene g ad T S) rfl f_Scene_30 d_Scene_stands_205 ?_
              refine dk_iload_n (k := 1) (i := 1) X 2 rfl rfl d_Scene_stands_208 ?_
              refine dk_iald X 25 (aC_25 g ad T S) d_Scene_stands_209 hF (fun v23 hF => ?_)
              refine dk_iconst (v := -1) X (by decide) d_Scene_stands_210 ?_
              refine dk_icmp_ne (tgt := 218) X (by decide) d_Scene_stands_211 hF (fun hF => ?_) (fun hF => ?_)
              · refine dk_iconst (v := 0) X (by decide) d_Scene_stands_218 ?_
                exact dk_retz hR hF d_Scene_stands_219
              · refine dk_iconst (v := 1) X (by decide) d_Scene_stands_214 ?_
                refine dk_goto (tgt := 219) X (by decide) d_Scene_stands_215 ?_
                exact dk_retz hR hF d_Scene_stands_219
  · refine dk_iconst (v := 0) X (by decide) d_Scene_stands_9 ?_
    exact dk_retz hR hF d_Scene_stands_10
def F_Scene_stands (n T : Nat) (x1 : Int32) (S : dk_S) : Option (Int32 × dk_S) := B_Scene_stands_0 n T x1 S
theorem c_Scene_stands (l : Launch) (g : dk_G) (ad : Nat → Nat) (T n : Nat) (x1 : Int32)  (S : dk_S) : dk_Mi l g y_Scene_stands b_Scene_stands 3 rm_Scene_stands (some .boolean) [.ref (ad 18), .int x1] (wC g ad T) S (F_Scene_stands n T x1 S) := dk_enteri (by decide) (Nat.le_of_ble_eq_true rfl) (fun p e s m args below meth c A Q res hF X hR => (kb_Scene_stands_0 (n := n) X hR  hF))
abbrev b_Scene_weight : ByteArray := prog_7_method_17_code
def y_Scene_weight : MethodName := ⟨R_Scene, "weight", "(I)I"⟩
theorem d_Scene_weight_0 : decode b_Scene_weight 0 = .ok (.aload_n 0, 1) := by decide +kernel
theorem d_Scene_weight_1 : decode b_Scene_weight 1 = .ok (.getfield 9, 3) := by decide +kernel
theorem d_Scene_weight_4 : decode b_Scene_weight 4 = .ok (.iload_n 1, 1) := by decide +kernel
theorem d_Scene_weight_5 : decode b_Scene_weight 5 = .ok (.iaload, 1) := by decide +kernel
theorem d_Scene_weight_6 : decode b_Scene_weight 6 = .ok (.tableswitch 67 1 5 #[34, 36, 45, 55, 57], 34) := by decide +kernel
theorem d_Scene_weight_40 : decode b_Scene_weight 40 = .ok (.iconst 3, 1) := by decide +kernel
theorem d_Scene_weight_41 : decode b_Scene_weight 41 = .ok (.ireturn, 1) := by decide +kernel
theorem d_Scene_weight_42 : decode b_Scene_weight 42 = .ok (.iconst 3, 1) := by decide +kernel
theorem d_Scene_weight_43 : decode b_Scene_weight 43 = .ok (.aload_n 0, 1) := by decide +kernel
theorem d_Scene_weight_44 : decode b_Scene_weight 44 = .ok (.getfield 24, 3) := by decide +kernel
theorem d_Scene_weight_47 : decode b_Scene_weight 47 = .ok (.iload_n 1, 1) := by decide +kernel
theorem d_Scene_weight_48 : decode b_Scene_weight 48 = .ok (.iaload, 1) := by decide +kernel
theorem d_Scene_weight_49 : decode b_Scene_weight 49 = .ok (.iadd, 1) := by decide +kernel
theorem d_Scene_weight_50 : decode b_Scene_weight 50 = .ok (.ireturn, 1) := by decide +kernel
theorem d_Scene_weight_51 : decode b_Scene_weight 51 = .ok (.bipush 10, 2) := by decide +kernel
theorem d_Scene_weight_53 : decode b_Scene_weight 53 = .ok (.aload_n 0, 1) := by decide +kernel
theorem d_Scene_weight_54 : decode b_Scene_weight 54 = .ok (.getfield 24, 3) := by decide +kernel
theorem d_Scene_weight_57 : decode b_Scene_weight 57 = .ok (.iload_n 1, 1) := by decide +kernel
theorem d_Scene_weight_58 : decode b_Scene_weight 58 = .ok (.iaload, 1) := by decide +kernel
theorem d_Scene_weight_59 : decode b_Scene_weight 59 = .ok (.iadd, 1) := by decide +kernel
theorem d_Scene_weight_60 : decode b_Scene_weight 60 = .ok (.ireturn, 1) := by decide +kernel
theorem d_Scene_weight_61 : decode b_Scene_weight 61 = .ok (.iconst 4, 1) := by decide +kernel
theorem d_Scene_weight_62 : decode b_Scene_weight 62 = .ok (.ireturn, 1) := by decide +kernel
theorem d_Scene_weight_63 : decode b_Scene_weight 63 = .ok (.bipush 6, 2) := by decide +kernel
theorem d_Scene_weight_65 : decode b_Scene_weight 65 = .ok (.aload_n 0, 1) := by decide +kernel
theorem d_Scene_weight_66 : decode b_Scene_weight 66 = .ok (.getfield 24, 3) := by decide +kernel
theorem d_Scene_weight_69 : decode b_Scene_weight 69 = .ok (.iload_n 1, 1) := by decide +kernel
theorem d_Scene_weight_70 : decode b_Scene_weight 70 = .ok (.iaload, 1) := by decide +kernel
theorem d_Scene_weight_71 : decode b_Scene_weight 71 = .ok (.iadd, 1) := by decide +kernel
theorem d_Scene_weight_72 : decode b_Scene_weight 72 = .ok (.ireturn, 1) := by decide +kernel
theorem d_Scene_weight_73 : decode b_Scene_weight 73 = .ok (.iconst 1, 1) := by decide +kernel
theorem d_Scene_weight_74 : decode b_Scene_weight 74 = .ok (.ireturn, 1) := by decide +kernel
theorem v_Scene_weight : dk_Yv y_Scene_weight b_Scene_weight 2 (some .int) 1 := ⟨dk_in (List.mem_of_getElem? (i := 765) (by decide +kernel)) rfl, dk_in (List.mem_of_getElem? (i := 766) (by decide +kernel)) rfl, dk_in (List.mem_of_getElem? (i := 72) (by decide +kernel)) rfl, dk_in (List.mem_of_getElem? (i := 767) (by decide +kernel)) rfl, by decide +kernel, by decide +kernel, by decide +kernel⟩
abbrev rm_Scene_weight : Room := { frames := 0, cells := 0, slots := 0, locals := 0 }
def B_Scene_weight_0 (n T : Nat)  (x1 : Int32) (S : dk_S) : Option (Int32 × dk_S) :=
  dk_r 44 (S 19) x1 fun v1 => if v1 = (1 : Int32) then (some ((3 : Int32), S)) else (if v1 = (2 : Int32) then (dk_r 44 (S 23) x1 fun v2 => some (((3 : Int32) + v2), S)) else (if v1 = (3 : Int32) then (dk_r 44 (S 23) x1 fun v3 => some (((10 : Int32) + v3), S)) else (if v1 = (4 : Int32) then (some ((4 : Int32), S)) else (if v1 = (5 : Int32) then (dk_r 44 (S 23) x1 fun v4 => some (((6 : Int32) + v4), S)) else (some ((1 : Int32), S))))))
set_option maxRecDepth 20000 in
theorem kb_Scene_weight_0 {p : Program} {l : Launch} {e : Env} {s : State} {m : MethodId} {args : Array Value} {below : List Frame} {meth : Method} {c : Code} {g : dk_G} {A : Nat → Prop} {Q : State → Prop} {ad : Nat → Nat} {T : Nat} {n : Nat} {res : (Int32 × dk_S)} (X : dk_X p s m args meth c b_Scene_weight 2 R_Scene (some .int) g A) (hR : dk_Ri p l e rm_Scene_weight s m args below meth c g A Q 2 b_Scene_weight (some .int) (wC g ad T) res)  {x1 : Int32} {S : dk_S}  (hF : B_Scene_weight_0 n T  x1 S = some res) : dk_J p l e rm_Scene_weight s m args below meth c g A Q 2 0 0 0 [(0, .ref (ad 18)), (1, .int x1)] [] (wC g ad T S) := by
  unfold B_Scene_weight_0 at hF
  refine dk_aload_n (k := 0) (i := 0) X 0 rfl rfl d_Scene_weight_0 ?_
  refine dk_get X q_Scene 18 3 (by decide) (oC_Scene g ad T S) rfl f_Scene_9 d_Scene_weight_1 ?_
  refine dk_iload_n (k := 1) (i := 1) X 1 rfl rfl d_Scene_weight_4 ?_
  refine dk_iald X 19 (aC_19 g ad T S) d_Scene_weight_5 hF (fun v1 hF => ?_)
  refine dk_if hF (fun hc1 hF => ?_) (fun hc1 hF => ?_)
  · refine dk_tsIn (v := 1) (tgt := 40) X d_Scene_weight_6 (by rw [hc1]; decide) (by decide) (by decide) rfl (by decide) ?_
    refine dk_iconst (v := 3) X (by decide) d_Scene_weight_40 ?_
    exact dk_reti hR hF d_Scene_weight_41
  · refine dk_if hF (fun hc2 hF => ?_) (fun hc2 hF => ?_)
    · refine dk_tsIn (v := 2) (tgt := 42) X d_Scene_weight_6 (by rw [hc2]; decide) (by decide) (by decide) rfl (by decide) ?_
      refine dk_iconst (v := 3) X (by decide) d_Scene_weight_42 ?_
      refine dk_aload_n (k := 0) (i := 0) X 0 rfl rfl d_Scene_weight_43 ?_
      refine dk_get X q_Scene 18 7 (by decide) (oC_Scene g ad T S) rfl f_Scene_24 d_Scene_weight_44 ?_
      refine dk_iload_n (k := 1) (i := 1) X 1 rfl rfl d_Scene_weight_47 ?_
      refine dk_iald X 23 (aC_23 g ad T S) d_Scene_weight_48 hF (fun v2 hF => ?_)
      refine dk_iadd X d_Scene_weight_49 ?_
      exact dk_reti hR hF d_Scene_weight_50
    · refine dk_if hF (fun hc3 hF => ?_) (fun hc3 hF => ?_)
      · refine dk_tsIn (v := 3) (tgt := 51) X d_Scene_weight_6 (by rw [hc3]; decide) (by decide) (by decide) rfl (by decide) ?_
        refine dk_bipush (v := 10) X (by decide) d_Scene_weight_51 ?_
        refine dk_aload_n (k := 0) (i := 0) X 0 rfl rfl d_Scene_weight_53 ?_
        refine dk_get X q_Scene 18 7 (by decide) (oC_Scene g ad T S) rfl f_Scene_24 d_Scene_weight_54 ?_
        refine dk_iload_n (k := 1) (i := 1) X 1 rfl rfl d_Scene_weight_57 ?_
        refine dk_iald X 23 (aC_23 g ad T S) d_Scene_weight_58 hF (fun v3 hF => ?_)
        refine dk_iadd X d_Scene_weight_59 ?_
        exact dk_reti hR hF d_Scene_weight_60
      · refine dk_if hF (fun hc4 hF => ?_) (fun hc4 hF => ?_)
        · refine dk_tsIn (v := 4) (tgt := 61) X d_Scene_weight_6 (by rw [hc4]; decide) (by decide) (by decide) rfl (by decide) ?_
          refine dk_iconst (v := 4) X (by decide) d_Scene_weight_61 ?_
          exact dk_reti hR hF d_Scene_weight_62
        · refine dk_if hF (fun hc5 hF => ?_) (fun hc5 hF => ?_)
          · refine dk_tsIn (v := 5) (tgt := 63) X d_Scene_weight_6 (by rw [hc5]; decide) (by decide) (by decide) rfl (by decide) ?_
            refine dk_bipush (v := 6) X (by decide) d_Scene_weight_63 ?_
            refine dk_aload_n (k := 0) (i := 0) X 0 rfl rfl d_Scene_weight_65 ?_
            refine dk_get X q_Scene 18 7 (by decide) (oC_Scene g ad T S) rfl f_Scene_24 d_Scene_weight_66 ?_
            refine dk_iload_n (k := 1) (i := 1) X 1 rfl rfl d_Scene_weight_69 ?_
            refine dk_iald X 23 (aC_23 g ad T S) d_Scene_weight_70 hF (fun v4 hF => ?_)
            refine dk_iadd X d_Scene_weight_71 ?_
            exact dk_reti hR hF d_Scene_weight_72
          · refine dk_tsOut (tgt := 73) X d_Scene_weight_6 (by have e1 := lv_neT hc1 (a := 1) (by decide); have e2 := lv_neT hc2 (a := 2) (by decide); have e3 := lv_neT hc3 (a := 3) (by decide); have e4 := lv_neT hc4 (a := 4) (by decide); have e5 := lv_neT hc5 (a := 5) (by decide); omega) (by decide) ?_
            refine dk_iconst (v := 1) X (by decide) d_Scene_weight_73 ?_
            exact dk_reti hR hF d_Scene_weight_74
def F_Scene_weight (n T : Nat) (x1 : Int32) (S : dk_S) : Option (Int32 × dk_S) := B_Scene_weight_0 n T x1 S
theorem c_Scene_weight (l : Launch) (g : dk_G) (ad : Nat → Nat) (T n : Nat) (x1 : Int32)  (S : dk_S) : dk_Mi l g y_Scene_weight b_Scene_weight 2 rm_Scene_weight (some .int) [.ref (ad 18), .int x1] (wC g ad T) S (F_Scene_weight n T x1 S) := dk_enteri (by decide) (Nat.le_of_ble_eq_true rfl) (fun p e s m args below meth c A Q res hF X hR => (kb_Scene_weight_0 (n := n) X hR  hF))
abbrev b_Scene_worth : ByteArray := prog_7_method_23_code
def y_Scene_worth : MethodName := ⟨R_Scene, "worth", "(I)I"⟩
theorem d_Scene_worth_0 : decode b_Scene_worth 0 = .ok (.aload_n 0, 1) := by decide +kernel
theorem d_Scene_worth_1 : decode b_Scene_worth 1 = .ok (.getfield 18, 3) := by decide +kernel
theorem d_Scene_worth_4 : decode b_Scene_worth 4 = .ok (.iload_n 1, 1) := by decide +kernel
theorem d_Scene_worth_5 : decode b_Scene_worth 5 = .ok (.iaload, 1) := by decide +kernel
theorem d_Scene_worth_6 : decode b_Scene_worth 6 = .ok (.istore_n 2, 1) := by decide +kernel
theorem d_Scene_worth_7 : decode b_Scene_worth 7 = .ok (.aload_n 0, 1) := by decide +kernel
theorem d_Scene_worth_8 : decode b_Scene_worth 8 = .ok (.getfield 54, 3) := by decide +kernel
theorem d_Scene_worth_11 : decode b_Scene_worth 11 = .ok (.iconst (-1), 1) := by decide +kernel
theorem d_Scene_worth_12 : decode b_Scene_worth 12 = .ok (.aload_n 0, 1) := by decide +kernel
theorem d_Scene_worth_13 : decode b_Scene_worth 13 = .ok (.getfield 9, 3) := by decide +kernel
theorem d_Scene_worth_16 : decode b_Scene_worth 16 = .ok (.iload_n 1, 1) := by decide +kernel
theorem d_Scene_worth_17 : decode b_Scene_worth 17 = .ok (.iaload, 1) := by decide +kernel
theorem d_Scene_worth_18 : decode b_Scene_worth 18 = .ok (.invokevirtual 163, 3) := by decide +kernel
theorem d_Scene_worth_21 : decode b_Scene_worth 21 = .ok (.aload_n 0, 1) := by decide +kernel
theorem d_Scene_worth_22 : decode b_Scene_worth 22 = .ok (.getfield 54, 3) := by decide +kernel
theorem d_Scene_worth_25 : decode b_Scene_worth 25 = .ok (.bipush (-2), 2) := by decide +kernel
theorem d_Scene_worth_27 : decode b_Scene_worth 27 = .ok (.aload_n 0, 1) := by decide +kernel
theorem d_Scene_worth_28 : decode b_Scene_worth 28 = .ok (.getfield 75, 3) := by decide +kernel
theorem d_Scene_worth_31 : decode b_Scene_worth 31 = .ok (.aload_n 0, 1) := by decide +kernel
theorem d_Scene_worth_32 : decode b_Scene_worth 32 = .ok (.getfield 21, 3) := by decide +kernel
theorem d_Scene_worth_35 : decode b_Scene_worth 35 = .ok (.iload_n 1, 1) := by decide +kernel
theorem d_Scene_worth_36 : decode b_Scene_worth 36 = .ok (.iaload, 1) := by decide +kernel
theorem d_Scene_worth_37 : decode b_Scene_worth 37 = .ok (.isub, 1) := by decide +kernel
theorem d_Scene_worth_38 : decode b_Scene_worth 38 = .ok (.invokevirtual 163, 3) := by decide +kernel
theorem d_Scene_worth_41 : decode b_Scene_worth 41 = .ok (.aload_n 0, 1) := by decide +kernel
theorem d_Scene_worth_42 : decode b_Scene_worth 42 = .ok (.getfield 54, 3) := by decide +kernel
theorem d_Scene_worth_45 : decode b_Scene_worth 45 = .ok (.bipush (-3), 2) := by decide +kernel
theorem d_Scene_worth_47 : decode b_Scene_worth 47 = .ok (.aload_n 0, 1) := by decide +kernel
theorem d_Scene_worth_48 : decode b_Scene_worth 48 = .ok (.iload_n 1, 1) := by decide +kernel
theorem d_Scene_worth_49 : decode b_Scene_worth 49 = .ok (.invokevirtual 181, 3) := by decide +kernel
theorem d_Scene_worth_52 : decode b_Scene_worth 52 = .ok (.invokevirtual 163, 3) := by decide +kernel
theorem d_Scene_worth_55 : decode b_Scene_worth 55 = .ok (.aload_n 0, 1) := by decide +kernel
theorem d_Scene_worth_56 : decode b_Scene_worth 56 = .ok (.getfield 54, 3) := by decide +kernel
theorem d_Scene_worth_59 : decode b_Scene_worth 59 = .ok (.bipush (-4), 2) := by decide +kernel
theorem d_Scene_worth_61 : decode b_Scene_worth 61 = .ok (.aload_n 0, 1) := by decide +kernel
theorem d_Scene_worth_62 : decode b_Scene_worth 62 = .ok (.getfield 46, 3) := by decide +kernel
theorem d_Scene_worth_65 : decode b_Scene_worth 65 = .ok (.aload_n 0, 1) := by decide +kernel
theorem d_Scene_worth_66 : decode b_Scene_worth 66 = .ok (.getfield 37, 3) := by decide +kernel
theorem d_Scene_worth_69 : decode b_Scene_worth 69 = .ok (.iload_n 2, 1) := by decide +kernel
theorem d_Scene_worth_70 : decode b_Scene_worth 70 = .ok (.iaload, 1) := by decide +kernel
theorem d_Scene_worth_71 : decode b_Scene_worth 71 = .ok (.invokevirtual 139, 3) := by decide +kernel
theorem d_Scene_worth_74 : decode b_Scene_worth 74 = .ok (.aload_n 0, 1) := by decide +kernel
theorem d_Scene_worth_75 : decode b_Scene_worth 75 = .ok (.getfield 15, 3) := by decide +kernel
theorem d_Scene_worth_78 : decode b_Scene_worth 78 = .ok (.iload_n 1, 1) := by decide +kernel
theorem d_Scene_worth_79 : decode b_Scene_worth 79 = .ok (.iaload, 1) := by decide +kernel
theorem d_Scene_worth_80 : decode b_Scene_worth 80 = .ok (.if_icmp .ne 7, 3) := by decide +kernel
theorem d_Scene_worth_83 : decode b_Scene_worth 83 = .ok (.iconst 1, 1) := by decide +kernel
theorem d_Scene_worth_84 : decode b_Scene_worth 84 = .ok (.goto 4, 3) := by decide +kernel
theorem d_Scene_worth_87 : decode b_Scene_worth 87 = .ok (.iconst 0, 1) := by decide +kernel
theorem d_Scene_worth_88 : decode b_Scene_worth 88 = .ok (.invokevirtual 163, 3) := by decide +kernel
theorem d_Scene_worth_91 : decode b_Scene_worth 91 = .ok (.aload_n 0, 1) := by decide +kernel
theorem d_Scene_worth_92 : decode b_Scene_worth 92 = .ok (.getfield 54, 3) := by decide +kernel
theorem d_Scene_worth_95 : decode b_Scene_worth 95 = .ok (.bipush (-5), 2) := by decide +kernel
theorem d_Scene_worth_97 : decode b_Scene_worth 97 = .ok (.aload_n 0, 1) := by decide +kernel
theorem d_Scene_worth_98 : decode b_Scene_worth 98 = .ok (.getfield 46, 3) := by decide +kernel
theorem d_Scene_worth_101 : decode b_Scene_worth 101 = .ok (.iload_n 2, 1) := by decide +kernel
theorem d_Scene_worth_102 : decode b_Scene_worth 102 = .ok (.invokevirtual 86, 3) := by decide +kernel
theorem d_Scene_worth_105 : decode b_Scene_worth 105 = .ok (.ifCond .eq 7, 3) := by decide +kernel
theorem d_Scene_worth_108 : decode b_Scene_worth 108 = .ok (.iconst 1, 1) := by decide +kernel
theorem d_Scene_worth_109 : decode b_Scene_worth 109 = .ok (.goto 4, 3) := by decide +kernel
theorem d_Scene_worth_112 : decode b_Scene_worth 112 = .ok (.iconst 0, 1) := by decide +kernel
theorem d_Scene_worth_113 : decode b_Scene_worth 113 = .ok (.invokevirtual 163, 3) := by decide +kernel
theorem d_Scene_worth_116 : decode b_Scene_worth 116 = .ok (.aload_n 0, 1) := by decide +kernel
theorem d_Scene_worth_117 : decode b_Scene_worth 117 = .ok (.getfield 54, 3) := by decide +kernel
theorem d_Scene_worth_120 : decode b_Scene_worth 120 = .ok (.bipush (-6), 2) := by decide +kernel
theorem d_Scene_worth_122 : decode b_Scene_worth 122 = .ok (.aload_n 0, 1) := by decide +kernel
theorem d_Scene_worth_123 : decode b_Scene_worth 123 = .ok (.getfield 15, 3) := by decide +kernel
theorem d_Scene_worth_126 : decode b_Scene_worth 126 = .ok (.iload_n 1, 1) := by decide +kernel
theorem d_Scene_worth_127 : decode b_Scene_worth 127 = .ok (.iaload, 1) := by decide +kernel
theorem d_Scene_worth_128 : decode b_Scene_worth 128 = .ok (.invokevirtual 163, 3) := by decide +kernel
theorem d_Scene_worth_131 : decode b_Scene_worth 131 = .ok (.iconst 0, 1) := by decide +kernel
theorem d_Scene_worth_132 : decode b_Scene_worth 132 = .ok (.sipush 9999, 3) := by decide +kernel
theorem d_Scene_worth_135 : decode b_Scene_worth 135 = .ok (.aload_n 0, 1) := by decide +kernel
theorem d_Scene_worth_136 : decode b_Scene_worth 136 = .ok (.getfield 54, 3) := by decide +kernel
theorem d_Scene_worth_139 : decode b_Scene_worth 139 = .ok (.aload_n 0, 1) := by decide +kernel
theorem d_Scene_worth_140 : decode b_Scene_worth 140 = .ok (.getfield 54, 3) := by decide +kernel
theorem d_Scene_worth_143 : decode b_Scene_worth 143 = .ok (.getfield 168, 3) := by decide +kernel
theorem d_Scene_worth_146 : decode b_Scene_worth 146 = .ok (.getfield 184, 3) := by decide +kernel
theorem d_Scene_worth_149 : decode b_Scene_worth 149 = .ok (.invokevirtual 177, 3) := by decide +kernel
theorem d_Scene_worth_152 : decode b_Scene_worth 152 = .ok (.invokestatic 187, 3) := by decide +kernel
theorem d_Scene_worth_155 : decode b_Scene_worth 155 = .ok (.invokestatic 193, 3) := by decide +kernel
theorem d_Scene_worth_158 : decode b_Scene_worth 158 = .ok (.ireturn, 1) := by decide +kernel
theorem v_Scene_worth : dk_Yv y_Scene_worth b_Scene_worth 3 (some .int) 1 := ⟨dk_in (List.mem_of_getElem? (i := 769) (by decide +kernel)) rfl, dk_in (List.mem_of_getElem? (i := 770) (by decide +kernel)) rfl, dk_in (List.mem_of_getElem? (i := 72) (by decide +kernel)) rfl, dk_in (List.mem_of_getElem? (i := 771) (by decide +kernel)) rfl, by decide +kernel, by decide +kernel, by decide +kernel⟩
abbrev rm_Scene_worth : Room := { frames := 2, cells := 0, slots := 0, locals := 46 }
theorem f_Scene_184 : Cond.fieldLink R_Scene 184 (T_Text 0).1 (T_Text 0).2.1 (T_Text 0).2.2.1 ∈ dk_tb := dk_in (List.mem_of_getElem? (i := 218) (by decide +kernel)) rfl
theorem m_Scene_181 : Cond.methodLink R_Scene 181 y_Scene_weight ∈ dk_tb := dk_in (List.mem_of_getElem? (i := 772) (by decide +kernel)) rfl
theorem mm_Scene_187 : Cond.methodLink R_Scene 187 Lib.Math.min.name ∈ dk_tb := dk_in (List.mem_of_getElem? (i := 773) (by decide +kernel)) rfl
theorem mm_Scene_193 : Cond.methodLink R_Scene 193 Lib.Math.max.name ∈ dk_tb := dk_in (List.mem_of_getElem? (i := 774) (by decide +kernel)) rfl
def B_Scene_worth_113 (n T : Nat)  (x1 : Int32) (u1 : Int32) (u2 : Int32) (S : dk_S) : Option (Int32 × dk_S) :=
  dk_cv (F_Scales_setName n T u1 u2 S) fun S1 => dk_r 44 (S1 20) x1 fun v3 => dk_cv (F_Scales_setName n T (-6 : Int32) v3 S1) fun S4 => dk_t T S4 fun t6 => dk_c (F_Scales_value n T t6 0 S4) fun r8 S7 => some ((if (0 : Int32) < (if r8 < (9999 : Int32) then r8 else (9999 : Int32)) then (if r8 < (9999 : Int32) then r8 else (9999 : Int32)) else (0 : Int32)), S7)
set_option maxRecDepth 20000 in
theorem kb_Scene_worth_113 {p : Program} {l : Launch} {e : Env} {s : State} {m : MethodId} {args : Array Value} {below : List Frame} {meth : Method} {c : Code} {g : dk_G} {A : Nat → Prop} {Q : State → Prop} {ad : Nat → Nat} {T : Nat} {n : Nat} {res : (Int32 × dk_S)} (X : dk_X p s m args meth c b_Scene_worth 3 R_Scene (some .int) g A) (hR : dk_Ri p l e rm_Scene_worth s m args below meth c g A Q 3 b_Scene_worth (some .int) (wC g ad T) res)  {x1 : Int32} {u1 : Int32} {u2 : Int32} {S : dk_S}  (hF : B_Scene_worth_113 n T  x1 u1 u2 S = some res) : dk_J p l e rm_Scene_worth s m args below meth c g A Q 3 0 0 113 [(0, .ref (ad 18)), (1, .int x1)] [.int u2, .int u1, .ref (ad 15)] (wC g ad T S) := by
  unfold B_Scene_worth_113 at hF
  refine dk_callVv X v_Scales_setName [.int u1, .int u2] (c_Scales_setName l g ad T n u1 u2 S) 15 (oC_Scales g ad T S) rfl rfl m_Scene_163 rfl rfl ⟨rfl, rfl, Nat.le_of_ble_eq_true rfl, Nat.le_of_ble_eq_true rfl, Nat.le_refl _, Nat.le_refl _⟩ (Nat.le_of_ble_eq_true rfl) d_Scene_worth_113 hF (fun S1 hF => ?_)
  refine dk_aload_n (k := 0) (i := 0) X 0 rfl rfl d_Scene_worth_116 ?_
  refine dk_get X q_Scene 18 2 (by decide) (oC_Scene g ad T S1) rfl f_Scene_54 d_Scene_worth_117 ?_
  refine dk_bipush (v := -6) X (by decide) d_Scene_worth_120 ?_
  refine dk_aload_n (k := 0) (i := 0) X 0 rfl rfl d_Scene_worth_122 ?_
  refine dk_get X q_Scene 18 4 (by decide) (oC_Scene g ad T S1) rfl f_Scene_15 d_Scene_worth_123 ?_
  refine dk_iload_n (k := 1) (i := 1) X 1 rfl rfl d_Scene_worth_126 ?_
  refine dk_iald X 20 (aC_20 g ad T S1) d_Scene_worth_127 hF (fun v3 hF => ?_)
  refine dk_callVv X v_Scales_setName [.int (-6 : Int32), .int v3] (c_Scales_setName l g ad T n (-6 : Int32) v3 S1) 15 (oC_Scales g ad T S1) rfl rfl m_Scene_163 rfl rfl ⟨rfl, rfl, Nat.le_of_ble_eq_true rfl, Nat.le_of_ble_eq_true rfl, Nat.le_refl _, Nat.le_refl _⟩ (Nat.le_of_ble_eq_true rfl) d_Scene_worth_128 hF (fun S4 hF => ?_)
  refine dk_iconst (v := 0) X (by decide) d_Scene_worth_131 ?_
  refine dk_sipush (v := 9999) X (by decide) d_Scene_worth_132 ?_
  refine dk_aload_n (k := 0) (i := 0) X 0 rfl rfl d_Scene_worth_135 ?_
  refine dk_get X q_Scene 18 2 (by decide) (oC_Scene g ad T S4) rfl f_Scene_54 d_Scene_worth_136 ?_
  refine dk_aload_n (k := 0) (i := 0) X 0 rfl rfl d_Scene_worth_139 ?_
  refine dk_get X q_Scene 18 2 (by decide) (oC_Scene g ad T S4) rfl f_Scene_54 d_Scene_worth_140 ?_
  obtain ⟨t6, ht6, et6, hF⟩ := dk_t_out hF
  refine dk_get X q_Scales 15 2 (by decide) (oC_Scales g ad T S4) (v := .ref (ad (43 + 3 * t6))) (by rw [et6]; rfl) f_Scene_168 d_Scene_worth_143 ?_
  refine dk_get X q_Text (43 + 3 * t6 + 0) 0 (by decide) (oC_text g ad T S4 t6 ht6) rfl f_Scene_184 d_Scene_worth_146 ?_
  refine dk_callVi X v_Scales_value [.ref (ad (44 + 3 * t6 + 0))] (c_Scales_value l g ad T n t6 0 ht6 (by decide) S4) 15 (oC_Scales g ad T S4) rfl rfl m_Scene_177 rfl rfl ⟨rfl, rfl, Nat.le_of_ble_eq_true rfl, Nat.le_of_ble_eq_true rfl, Nat.le_refl _, Nat.le_refl _⟩ (Nat.le_of_ble_eq_true rfl) d_Scene_worth_149 hF (fun r8 S7 hF => ?_)
  refine dk_mmin X mm_Scene_187 (Nat.le_of_ble_eq_true rfl) (Nat.le_of_ble_eq_true rfl) (Nat.le_refl _) (Nat.le_refl _) d_Scene_worth_152 ?_
  refine dk_mmax X mm_Scene_193 (Nat.le_of_ble_eq_true rfl) (Nat.le_of_ble_eq_true rfl) (Nat.le_refl _) (Nat.le_refl _) d_Scene_worth_155 ?_
  exact dk_reti hR hF d_Scene_worth_158
def B_Scene_worth_88 (n T : Nat)  (x1 : Int32) (x2 : Int32) (u1 : Int32) (u2 : Int32) (S : dk_S) : Option (Int32 × dk_S) :=
  dk_cv (F_Scales_setName n T u1 u2 S) fun S9 => dk_c (F_Land_isTame n T x2 S9) fun r12 S11 => if r12 = 0 then (B_Scene_worth_113 n T  x1 (-5 : Int32) (0 : Int32) S11) else (B_Scene_worth_113 n T  x1 (-5 : Int32) (1 : Int32) S11)
set_option maxRecDepth 20000 in
theorem kb_Scene_worth_88 {p : Program} {l : Launch} {e : Env} {s : State} {m : MethodId} {args : Array Value} {below : List Frame} {meth : Method} {c : Code} {g : dk_G} {A : Nat → Prop} {Q : State → Prop} {ad : Nat → Nat} {T : Nat} {n : Nat} {res : (Int32 × dk_S)} (X : dk_X p s m args meth c b_Scene_worth 3 R_Scene (some .int) g A) (hR : dk_Ri p l e rm_Scene_worth s m args below meth c g A Q 3 b_Scene_worth (some .int) (wC g ad T) res)  {x1 : Int32} {x2 : Int32} {u1 : Int32} {u2 : Int32} {S : dk_S}  (hF : B_Scene_worth_88 n T  x1 x2 u1 u2 S = some res) : dk_J p l e rm_Scene_worth s m args below meth c g A Q 3 0 0 88 [(0, .ref (ad 18)), (1, .int x1), (2, .int x2)] [.int u2, .int u1, .ref (ad 15)] (wC g ad T S) := by
  unfold B_Scene_worth_88 at hF
  refine dk_callVv X v_Scales_setName [.int u1, .int u2] (c_Scales_setName l g ad T n u1 u2 S) 15 (oC_Scales g ad T S) rfl rfl m_Scene_163 rfl rfl ⟨rfl, rfl, Nat.le_of_ble_eq_true rfl, Nat.le_of_ble_eq_true rfl, Nat.le_refl _, Nat.le_refl _⟩ (Nat.le_of_ble_eq_true rfl) d_Scene_worth_88 hF (fun S9 hF => ?_)
  refine dk_aload_n (k := 0) (i := 0) X 0 rfl rfl d_Scene_worth_91 ?_
  refine dk_get X q_Scene 18 2 (by decide) (oC_Scene g ad T S9) rfl f_Scene_54 d_Scene_worth_92 ?_
  refine dk_bipush (v := -5) X (by decide) d_Scene_worth_95 ?_
  refine dk_aload_n (k := 0) (i := 0) X 0 rfl rfl d_Scene_worth_97 ?_
  refine dk_get X q_Scene 18 0 (by decide) (oC_Scene g ad T S9) rfl f_Scene_46 d_Scene_worth_98 ?_
  refine dk_iload_n (k := 2) (i := 2) X 2 rfl rfl d_Scene_worth_101 ?_
  refine dk_callVi X v_Land_isTame [.int x2] (c_Land_isTame l g ad T n x2 S9) 1 (oC_Land g ad T S9) rfl rfl m_Scene_86 rfl rfl ⟨rfl, rfl, Nat.le_of_ble_eq_true rfl, Nat.le_of_ble_eq_true rfl, Nat.le_refl _, Nat.le_refl _⟩ (Nat.le_of_ble_eq_true rfl) d_Scene_worth_102 hF (fun r12 S11 hF => ?_)
  refine dk_if_eq (tgt := 112) X (by decide) d_Scene_worth_105 hF (fun hF => ?_) (fun hF => ?_)
  · refine dk_iconst (v := 0) X (by decide) d_Scene_worth_112 ?_
    exact dk_sub [0, 1] rfl (kb_Scene_worth_113 (n := n) X hR   hF)
  · refine dk_iconst (v := 1) X (by decide) d_Scene_worth_108 ?_
    refine dk_goto (tgt := 113) X (by decide) d_Scene_worth_109 ?_
    exact dk_sub [0, 1] rfl (kb_Scene_worth_113 (n := n) X hR   hF)
def B_Scene_worth_0 (n T : Nat)  (x1 : Int32) (S : dk_S) : Option (Int32 × dk_S) :=
  dk_r 44 (S 21) x1 fun v13 => dk_r 44 (S 19) x1 fun v14 => dk_cv (F_Scales_setName n T (-1 : Int32) v14 S) fun S15 => dk_r 44 (S15 22) x1 fun v17 => dk_cv (F_Scales_setName n T (-2 : Int32) ((S15 116 0) - v17) S15) fun S18 => dk_c (F_Scene_weight n T x1 S18) fun r21 S20 => dk_cv (F_Scales_setName n T (-3 : Int32) r21 S20) fun S22 => dk_r 6 (S22 27) v13 fun v24 => dk_c (F_Land_ownerOf n T v24 S22) fun r26 S25 => dk_r 44 (S25 20) x1 fun v27 => if ¬ r26 = v27 then (B_Scene_worth_88 n T  x1 v13 (-4 : Int32) (0 : Int32) S25) else (B_Scene_worth_88 n T  x1 v13 (-4 : Int32) (1 : Int32) S25)
set_option maxRecDepth 20000 in
theorem kb_Scene_worth_0 {p : Program} {l : Launch} {e : Env} {s : State} {m : MethodId} {args : Array Value} {below : List Frame} {meth : Method} {c : Code} {g : dk_G} {A : Nat → Prop} {Q : State → Prop} {ad : Nat → Nat} {T : Nat} {n : Nat} {res : (Int32 × dk_S)} (X : dk_X p s m args meth c b_Scene_worth 3 R_Scene (some .int) g A) (hR : dk_Ri p l e rm_Scene_worth s m args below meth c g A Q 3 b_Scene_worth (some .int) (wC g ad T) res)  {x1 : Int32} {S : dk_S}  (hF : B_Scene_worth_0 n T  x1 S = some res) : dk_J p l e rm_Scene_worth s m args below meth c g A Q 3 0 0 0 [(0, .ref (ad 18)), (1, .int x1)] [] (wC g ad T S) := by
  unfold B_Scene_worth_0 at hF
  refine dk_aload_n (k := 0) (i := 0) X 0 rfl rfl d_Scene_worth_0 ?_
  refine dk_get X q_Scene 18 5 (by decide) (oC_Scene g ad T S) rfl f_Scene_18 d_Scene_worth_1 ?_
  refine dk_iload_n (k := 1) (i := 1) X 1 rfl rfl d_Scene_worth_4 ?_
  refine dk_iald X 21 (aC_21 g ad T S) d_Scene_worth_5 hF (fun v13 hF => ?_)
  refine dk_istore_n (k := 2) (i := 2) (lv' := [(2, .int v13), (0, .ref (ad 18)), (1, .int x1)]) X rfl (by decide) rfl d_Scene_worth_6 ?_
  refine dk_aload_n (k := 0) (i := 0) X 1 rfl rfl d_Scene_worth_7 ?_
  refine dk_get X q_Scene 18 2 (by decide) (oC_Scene g ad T S) rfl f_Scene_54 d_Scene_worth_8 ?_
  refine dk_iconst (v := -1) X (by decide) d_Scene_worth_11 ?_
  refine dk_aload_n (k := 0) (i := 0) X 1 rfl rfl d_Scene_worth_12 ?_
  refine dk_get X q_Scene 18 3 (by decide) (oC_Scene g ad T S) rfl f_Scene_9 d_Scene_worth_13 ?_
  refine dk_iload_n (k := 1) (i := 1) X 2 rfl rfl d_Scene_worth_16 ?_
  refine dk_iald X 19 (aC_19 g ad T S) d_Scene_worth_17 hF (fun v14 hF => ?_)
  refine dk_callVv X v_Scales_setName [.int (-1 : Int32), .int v14] (c_Scales_setName l g ad T n (-1 : Int32) v14 S) 15 (oC_Scales g ad T S) rfl rfl m_Scene_163 rfl rfl ⟨rfl, rfl, Nat.le_of_ble_eq_true rfl, Nat.le_of_ble_eq_true rfl, Nat.le_refl _, Nat.le_refl _⟩ (Nat.le_of_ble_eq_true rfl) d_Scene_worth_18 hF (fun S15 hF => ?_)
  refine dk_aload_n (k := 0) (i := 0) X 1 rfl rfl d_Scene_worth_21 ?_
  refine dk_get X q_Scene 18 2 (by decide) (oC_Scene g ad T S15) rfl f_Scene_54 d_Scene_worth_22 ?_
  refine dk_bipush (v := -2) X (by decide) d_Scene_worth_25 ?_
  refine dk_aload_n (k := 0) (i := 0) X 1 rfl rfl d_Scene_worth_27 ?_
  refine dk_get X q_Scene 18 12 (by decide) (oC_Scene g ad T S15) rfl f_Scene_75 d_Scene_worth_28 ?_
  refine dk_aload_n (k := 0) (i := 0) X 1 rfl rfl d_Scene_worth_31 ?_
  refine dk_get X q_Scene 18 6 (by decide) (oC_Scene g ad T S15) rfl f_Scene_21 d_Scene_worth_32 ?_
  refine dk_iload_n (k := 1) (i := 1) X 2 rfl rfl d_Scene_worth_35 ?_
  refine dk_iald X 22 (aC_22 g ad T S15) d_Scene_worth_36 hF (fun v17 hF => ?_)
  refine dk_isub X d_Scene_worth_37 ?_
  refine dk_callVv X v_Scales_setName [.int (-2 : Int32), .int ((S15 116 0) - v17)] (c_Scales_setName l g ad T n (-2 : Int32) ((S15 116 0) - v17) S15) 15 (oC_Scales g ad T S15) rfl rfl m_Scene_163 rfl rfl ⟨rfl, rfl, Nat.le_of_ble_eq_true rfl, Nat.le_of_ble_eq_true rfl, Nat.le_refl _, Nat.le_refl _⟩ (Nat.le_of_ble_eq_true rfl) d_Scene_worth_38 hF (fun S18 hF => ?_)
  refine dk_aload_n (k := 0) (i := 0) X 1 rfl rfl d_Scene_worth_41 ?_
  refine dk_get X q_Scene 18 2 (by decide) (oC_Scene g ad T S18) rfl f_Scene_54 d_Scene_worth_42 ?_
  refine dk_bipush (v := -3) X (by decide) d_Scene_worth_45 ?_
  refine dk_aload_n (k := 0) (i := 0) X 1 rfl rfl d_Scene_worth_47 ?_
  refine dk_iload_n (k := 1) (i := 1) X 2 rfl rfl d_Scene_worth_48 ?_
  refine dk_callVi X v_Scene_weight [.int x1] (c_Scene_weight l g ad T n x1 S18) 18 (oC_Scene g ad T S18) rfl rfl m_Scene_181 rfl rfl ⟨rfl, rfl, Nat.le_of_ble_eq_true rfl, Nat.le_of_ble_eq_true rfl, Nat.le_refl _, Nat.le_refl _⟩ (Nat.le_of_ble_eq_true rfl) d_Scene_worth_49 hF (fun r21 S20 hF => ?_)
  refine dk_callVv X v_Scales_setName [.int (-3 : Int32), .int r21] (c_Scales_setName l g ad T n (-3 : Int32) r21 S20) 15 (oC_Scales g ad T S20) rfl rfl m_Scene_163 rfl rfl ⟨rfl, rfl, Nat.le_of_ble_eq_true rfl, Nat.le_of_ble_eq_true rfl, Nat.le_refl _, Nat.le_refl _⟩ (Nat.le_of_ble_eq_true rfl) d_Scene_worth_52 hF (fun S22 hF => ?_)
  refine dk_aload_n (k := 0) (i := 0) X 1 rfl rfl d_Scene_worth_55 ?_
  refine dk_get X q_Scene 18 2 (by decide) (oC_Scene g ad T S22) rfl f_Scene_54 d_Scene_worth_56 ?_
  refine dk_bipush (v := -4) X (by decide) d_Scene_worth_59 ?_
  refine dk_aload_n (k := 0) (i := 0) X 1 rfl rfl d_Scene_worth_61 ?_
  refine dk_get X q_Scene 18 0 (by decide) (oC_Scene g ad T S22) rfl f_Scene_46 d_Scene_worth_62 ?_
  refine dk_aload_n (k := 0) (i := 0) X 1 rfl rfl d_Scene_worth_65 ?_
  refine dk_get X q_Scene 18 13 (by decide) (oC_Scene g ad T S22) rfl f_Scene_37 d_Scene_worth_66 ?_
  refine dk_iload_n (k := 2) (i := 2) X 0 rfl rfl d_Scene_worth_69 ?_
  refine dk_iald X 27 (aC_27 g ad T S22) d_Scene_worth_70 hF (fun v24 hF => ?_)
  refine dk_callVi X v_Land_ownerOf [.int v24] (c_Land_ownerOf l g ad T n v24 S22) 1 (oC_Land g ad T S22) rfl rfl m_Scene_139 rfl rfl ⟨rfl, rfl, Nat.le_of_ble_eq_true rfl, Nat.le_of_ble_eq_true rfl, Nat.le_refl _, Nat.le_refl _⟩ (Nat.le_of_ble_eq_true rfl) d_Scene_worth_71 hF (fun r26 S25 hF => ?_)
  refine dk_aload_n (k := 0) (i := 0) X 1 rfl rfl d_Scene_worth_74 ?_
  refine dk_get X q_Scene 18 4 (by decide) (oC_Scene g ad T S25) rfl f_Scene_15 d_Scene_worth_75 ?_
  refine dk_iload_n (k := 1) (i := 1) X 2 rfl rfl d_Scene_worth_78 ?_
  refine dk_iald X 20 (aC_20 g ad T S25) d_Scene_worth_79 hF (fun v27 hF => ?_)
  refine dk_icmp_ne (tgt := 87) X (by decide) d_Scene_worth_80 hF (fun hF => ?_) (fun hF => ?_)
  · refine dk_iconst (v := 0) X (by decide) d_Scene_worth_87 ?_
    exact dk_sub [1, 2, 0] rfl (kb_Scene_worth_88 (n := n) X hR   hF)
  · refine dk_iconst (v := 1) X (by decide) d_Scene_worth_83 ?_
    refine dk_goto (tgt := 88) X (by decide) d_Scene_worth_84 ?_
    exact dk_sub [1, 2, 0] rfl (kb_Scene_worth_88 (n := n) X hR   hF)
def F_Scene_worth (n T : Nat) (x1 : Int32) (S : dk_S) : Option (Int32 × dk_S) := B_Scene_worth_0 n T x1 S
theorem c_Scene_worth (l : Launch) (g : dk_G) (ad : Nat → Nat) (T n : Nat) (x1 : Int32)  (S : dk_S) : dk_Mi l g y_Scene_worth b_Scene_worth 3 rm_Scene_worth (some .int) [.ref (ad 18), .int x1] (wC g ad T) S (F_Scene_worth n T x1 S) := dk_enteri (by decide) (Nat.le_of_ble_eq_true rfl) (fun p e s m args below meth c A Q res hF X hR => (kb_Scene_worth_0 (n := n) X hR  hF))
abbrev b_Scene_weigh : ByteArray := prog_7_method_24_code
def y_Scene_weigh : MethodName := ⟨R_Scene, "weigh", "(I)V"⟩
theorem d_Scene_weigh_0 : decode b_Scene_weigh 0 = .ok (.aload_n 0, 1) := by decide +kernel
theorem d_Scene_weigh_1 : decode b_Scene_weigh 1 = .ok (.iconst (-1), 1) := by decide +kernel
theorem d_Scene_weigh_2 : decode b_Scene_weigh 2 = .ok (.putfield 196, 3) := by decide +kernel
theorem d_Scene_weigh_5 : decode b_Scene_weigh 5 = .ok (.aload_n 0, 1) := by decide +kernel
theorem d_Scene_weigh_6 : decode b_Scene_weigh 6 = .ok (.iconst 0, 1) := by decide +kernel
theorem d_Scene_weigh_7 : decode b_Scene_weigh 7 = .ok (.putfield 199, 3) := by decide +kernel
theorem d_Scene_weigh_10 : decode b_Scene_weigh 10 = .ok (.iconst 0, 1) := by decide +kernel
theorem d_Scene_weigh_11 : decode b_Scene_weigh 11 = .ok (.istore_n 2, 1) := by decide +kernel
theorem d_Scene_weigh_12 : decode b_Scene_weigh 12 = .ok (.iconst 0, 1) := by decide +kernel
theorem d_Scene_weigh_13 : decode b_Scene_weigh 13 = .ok (.istore_n 3, 1) := by decide +kernel
theorem d_Scene_weigh_14 : decode b_Scene_weigh 14 = .ok (.iload_n 3, 1) := by decide +kernel
theorem d_Scene_weigh_15 : decode b_Scene_weigh 15 = .ok (.aload_n 0, 1) := by decide +kernel
theorem d_Scene_weigh_16 : decode b_Scene_weigh 16 = .ok (.getfield 58, 3) := by decide +kernel
theorem d_Scene_weigh_19 : decode b_Scene_weigh 19 = .ok (.if_icmp .ge 95, 3) := by decide +kernel
theorem d_Scene_weigh_22 : decode b_Scene_weigh 22 = .ok (.aload_n 0, 1) := by decide +kernel
theorem d_Scene_weigh_23 : decode b_Scene_weigh 23 = .ok (.getfield 18, 3) := by decide +kernel
theorem d_Scene_weigh_26 : decode b_Scene_weigh 26 = .ok (.iload_n 3, 1) := by decide +kernel
theorem d_Scene_weigh_27 : decode b_Scene_weigh 27 = .ok (.iaload, 1) := by decide +kernel
theorem d_Scene_weigh_28 : decode b_Scene_weigh 28 = .ok (.iload_n 1, 1) := by decide +kernel
theorem d_Scene_weigh_29 : decode b_Scene_weigh 29 = .ok (.if_icmp .ne 79, 3) := by decide +kernel
theorem d_Scene_weigh_32 : decode b_Scene_weigh 32 = .ok (.aload_n 0, 1) := by decide +kernel
theorem d_Scene_weigh_33 : decode b_Scene_weigh 33 = .ok (.iload_n 3, 1) := by decide +kernel
theorem d_Scene_weigh_34 : decode b_Scene_weigh 34 = .ok (.invokevirtual 203, 3) := by decide +kernel
theorem d_Scene_weigh_37 : decode b_Scene_weigh 37 = .ok (.ifCond .ne 6, 3) := by decide +kernel
theorem d_Scene_weigh_40 : decode b_Scene_weigh 40 = .ok (.goto 68, 3) := by decide +kernel
theorem d_Scene_weigh_43 : decode b_Scene_weigh 43 = .ok (.aload_n 0, 1) := by decide +kernel
theorem d_Scene_weigh_44 : decode b_Scene_weigh 44 = .ok (.iload_n 3, 1) := by decide +kernel
theorem d_Scene_weigh_45 : decode b_Scene_weigh 45 = .ok (.invokevirtual 206, 3) := by decide +kernel
theorem d_Scene_weigh_48 : decode b_Scene_weigh 48 = .ok (.istore 4, 2) := by decide +kernel
theorem d_Scene_weigh_50 : decode b_Scene_weigh 50 = .ok (.iload 4, 2) := by decide +kernel
theorem d_Scene_weigh_52 : decode b_Scene_weigh 52 = .ok (.iload_n 2, 1) := by decide +kernel
theorem d_Scene_weigh_53 : decode b_Scene_weigh 53 = .ok (.if_icmp .le 19, 3) := by decide +kernel
theorem d_Scene_weigh_56 : decode b_Scene_weigh 56 = .ok (.aload_n 0, 1) := by decide +kernel
theorem d_Scene_weigh_57 : decode b_Scene_weigh 57 = .ok (.iload_n 3, 1) := by decide +kernel
theorem d_Scene_weigh_58 : decode b_Scene_weigh 58 = .ok (.putfield 196, 3) := by decide +kernel
theorem d_Scene_weigh_61 : decode b_Scene_weigh 61 = .ok (.iload 4, 2) := by decide +kernel
theorem d_Scene_weigh_63 : decode b_Scene_weigh 63 = .ok (.istore_n 2, 1) := by decide +kernel
theorem d_Scene_weigh_64 : decode b_Scene_weigh 64 = .ok (.aload_n 0, 1) := by decide +kernel
theorem d_Scene_weigh_65 : decode b_Scene_weigh 65 = .ok (.iconst 0, 1) := by decide +kernel
theorem d_Scene_weigh_66 : decode b_Scene_weigh 66 = .ok (.putfield 199, 3) := by decide +kernel
theorem d_Scene_weigh_69 : decode b_Scene_weigh 69 = .ok (.goto 39, 3) := by decide +kernel
theorem d_Scene_weigh_72 : decode b_Scene_weigh 72 = .ok (.aload_n 0, 1) := by decide +kernel
theorem d_Scene_weigh_73 : decode b_Scene_weigh 73 = .ok (.getfield 196, 3) := by decide +kernel
theorem d_Scene_weigh_76 : decode b_Scene_weigh 76 = .ok (.ifCond .lt 32, 3) := by decide +kernel
theorem d_Scene_weigh_79 : decode b_Scene_weigh 79 = .ok (.iload 4, 2) := by decide +kernel
theorem d_Scene_weigh_81 : decode b_Scene_weigh 81 = .ok (.iload_n 2, 1) := by decide +kernel
theorem d_Scene_weigh_82 : decode b_Scene_weigh 82 = .ok (.if_icmp .ne 26, 3) := by decide +kernel
theorem d_Scene_weigh_85 : decode b_Scene_weigh 85 = .ok (.aload_n 0, 1) := by decide +kernel
theorem d_Scene_weigh_86 : decode b_Scene_weigh 86 = .ok (.getfield 15, 3) := by decide +kernel
theorem d_Scene_weigh_89 : decode b_Scene_weigh 89 = .ok (.iload_n 3, 1) := by decide +kernel
theorem d_Scene_weigh_90 : decode b_Scene_weigh 90 = .ok (.iaload, 1) := by decide +kernel
theorem d_Scene_weigh_91 : decode b_Scene_weigh 91 = .ok (.aload_n 0, 1) := by decide +kernel
theorem d_Scene_weigh_92 : decode b_Scene_weigh 92 = .ok (.getfield 15, 3) := by decide +kernel
theorem d_Scene_weigh_95 : decode b_Scene_weigh 95 = .ok (.aload_n 0, 1) := by decide +kernel
theorem d_Scene_weigh_96 : decode b_Scene_weigh 96 = .ok (.getfield 196, 3) := by decide +kernel
theorem d_Scene_weigh_99 : decode b_Scene_weigh 99 = .ok (.iaload, 1) := by decide +kernel
theorem d_Scene_weigh_100 : decode b_Scene_weigh 100 = .ok (.if_icmp .eq 8, 3) := by decide +kernel
theorem d_Scene_weigh_103 : decode b_Scene_weigh 103 = .ok (.aload_n 0, 1) := by decide +kernel
theorem d_Scene_weigh_104 : decode b_Scene_weigh 104 = .ok (.iconst 1, 1) := by decide +kernel
theorem d_Scene_weigh_105 : decode b_Scene_weigh 105 = .ok (.putfield 199, 3) := by decide +kernel
theorem d_Scene_weigh_108 : decode b_Scene_weigh 108 = .ok (.iinc 3 1, 3) := by decide +kernel
theorem d_Scene_weigh_111 : decode b_Scene_weigh 111 = .ok (.goto (-97), 3) := by decide +kernel
theorem d_Scene_weigh_114 : decode b_Scene_weigh 114 = .ok (.return_, 1) := by decide +kernel
theorem v_Scene_weigh : dk_Yv y_Scene_weigh b_Scene_weigh 5 (none) 1 := ⟨dk_in (List.mem_of_getElem? (i := 786) (by decide +kernel)) rfl, dk_in (List.mem_of_getElem? (i := 787) (by decide +kernel)) rfl, dk_in (List.mem_of_getElem? (i := 72) (by decide +kernel)) rfl, dk_in (List.mem_of_getElem? (i := 788) (by decide +kernel)) rfl, by decide +kernel, by decide +kernel, by decide +kernel⟩
abbrev rm_Scene_weigh : Room := { frames := 4, cells := 0, slots := 0, locals := 92 }
theorem f_Scene_196 : Cond.fieldLink R_Scene 196 (T_Scene 16).1 (T_Scene 16).2.1 (T_Scene 16).2.2.1 ∈ dk_tb := dk_in (List.mem_of_getElem? (i := 276) (by decide +kernel)) rfl
theorem f_Scene_199 : Cond.fieldLink R_Scene 199 (T_Scene 17).1 (T_Scene 17).2.1 (T_Scene 17).2.2.1 ∈ dk_tb := dk_in (List.mem_of_getElem? (i := 277) (by decide +kernel)) rfl
theorem m_Scene_203 : Cond.methodLink R_Scene 203 y_Scene_stands ∈ dk_tb := dk_in (List.mem_of_getElem? (i := 789) (by decide +kernel)) rfl
theorem m_Scene_206 : Cond.methodLink R_Scene 206 y_Scene_worth ∈ dk_tb := dk_in (List.mem_of_getElem? (i := 790) (by decide +kernel)) rfl
def B_Scene_weigh_108 (n T : Nat) (k14 : Int32 → Int32 → Int32 → dk_S → Option dk_S) (x1 : Int32) (x2 : Int32) (x3 : Int32) (S : dk_S) : Option dk_S :=
  k14 x1 x2 (x3 + (1 : Int32)) S
set_option maxRecDepth 20000 in
theorem kb_Scene_weigh_108 {p : Program} {l : Launch} {e : Env} {s : State} {m : MethodId} {args : Array Value} {below : List Frame} {meth : Method} {c : Code} {g : dk_G} {A : Nat → Prop} {Q : State → Prop} {ad : Nat → Nat} {T : Nat} {n : Nat} {res : dk_S} (X : dk_X p s m args meth c b_Scene_weigh 5 R_Scene (none) g A) (hR : dk_Rv p l e rm_Scene_weigh s m args below meth c g A Q 5 b_Scene_weigh (none) (wC g ad T) res) {k14 : Int32 → Int32 → Int32 → dk_S → Option dk_S} (hk14 : ∀ (x1 : Int32) (x2 : Int32) (x3 : Int32)  (S : dk_S), k14 x1 x2 x3 S = some res → dk_J p l e rm_Scene_weigh s m args below meth c g A Q 5 0 0 14 [(0, .ref (ad 18)), (1, .int x1), (2, .int x2), (3, .int x3)] [] (wC g ad T S)) {x1 : Int32} {x2 : Int32} {x3 : Int32} {S : dk_S}  (hF : B_Scene_weigh_108 n T k14 x1 x2 x3 S = some res) : dk_J p l e rm_Scene_weigh s m args below meth c g A Q 5 0 0 108 [(0, .ref (ad 18)), (1, .int x1), (2, .int x2), (3, .int x3)] [] (wC g ad T S) := by
  unfold B_Scene_weigh_108 at hF
  refine dk_iinc (i := 3) (v := (x3 + (1 : Int32))) (lv' := [(3, .int (x3 + (1 : Int32))), (0, .ref (ad 18)), (1, .int x1), (2, .int x2)]) X 3 rfl (dk_ii _ (by decide)) (by decide) rfl d_Scene_weigh_108 ?_
  refine dk_goto (tgt := 14) X (by decide) d_Scene_weigh_111 ?_
  exact dk_sub [1, 2, 3, 0] rfl (hk14 x1 x2 (x3 + (1 : Int32)) S hF)
def B_Scene_weigh_14b (n T : Nat) (k14 : Int32 → Int32 → Int32 → dk_S → Option dk_S) (x1 : Int32) (x2 : Int32) (x3 : Int32) (S : dk_S) : Option dk_S :=
  if (S 115 0) ≤ x3 then (some S) else (dk_r 44 (S 21) x3 fun v1 => if ¬ v1 = x1 then (B_Scene_weigh_108 n T k14 x1 x2 x3 S) else (dk_c (F_Scene_stands n T x3 S) fun r3 S2 => if ¬ r3 = 0 then (dk_c (F_Scene_worth n T x3 S2) fun r5 S4 => if r5 ≤ x2 then (if (S4 117 0) < 0 then (B_Scene_weigh_108 n T k14 x1 x2 x3 S4) else (if ¬ r5 = x2 then (B_Scene_weigh_108 n T k14 x1 x2 x3 S4) else (dk_r 44 (S4 20) x3 fun v6 => dk_r 44 (S4 20) (S4 117 0) fun v7 => if v6 = v7 then (B_Scene_weigh_108 n T k14 x1 x2 x3 S4) else (dk_b (1 : Int32) <| dk_p S4 118 (1 : Int32) fun S8 => B_Scene_weigh_108 n T k14 x1 x2 x3 S8)))) else (dk_p S4 117 x3 fun S9 => dk_b (0 : Int32) <| dk_p S9 118 (0 : Int32) fun S10 => B_Scene_weigh_108 n T k14 x1 r5 x3 S10)) else (B_Scene_weigh_108 n T k14 x1 x2 x3 S2)))
set_option maxRecDepth 20000 in
theorem kb_Scene_weigh_14b {p : Program} {l : Launch} {e : Env} {s : State} {m : MethodId} {args : Array Value} {below : List Frame} {meth : Method} {c : Code} {g : dk_G} {A : Nat → Prop} {Q : State → Prop} {ad : Nat → Nat} {T : Nat} {n : Nat} {res : dk_S} (X : dk_X p s m args meth c b_Scene_weigh 5 R_Scene (none) g A) (hR : dk_Rv p l e rm_Scene_weigh s m args below meth c g A Q 5 b_Scene_weigh (none) (wC g ad T) res) {k14 : Int32 → Int32 → Int32 → dk_S → Option dk_S} (hk14 : ∀ (x1 : Int32) (x2 : Int32) (x3 : Int32)  (S : dk_S), k14 x1 x2 x3 S = some res → dk_J p l e rm_Scene_weigh s m args below meth c g A Q 5 0 0 14 [(0, .ref (ad 18)), (1, .int x1), (2, .int x2), (3, .int x3)] [] (wC g ad T S)) {x1 : Int32} {x2 : Int32} {x3 : Int32} {S : dk_S}  (hF : B_Scene_weigh_14b n T k14 x1 x2 x3 S = some res) : dk_J p l e rm_Scene_weigh s m args below meth c g A Q 5 0 0 14 [(0, .ref (ad 18)), (1, .int x1), (2, .int x2), (3, .int x3)] [] (wC g ad T S) := by
  unfold B_Scene_weigh_14b at hF
  refine dk_iload_n (k := 3) (i := 3) X 3 rfl rfl d_Scene_weigh_14 ?_
  refine dk_aload_n (k := 0) (i := 0) X 0 rfl rfl d_Scene_weigh_15 ?_
  refine dk_get X q_Scene 18 11 (by decide) (oC_Scene g ad T S) rfl f_Scene_58 d_Scene_weigh_16 ?_
  refine dk_icmp_ge (tgt := 114) X (by decide) d_Scene_weigh_19 hF (fun hF => ?_) (fun hF => ?_)
  · exact dk_retv hR hF d_Scene_weigh_114
  · refine dk_aload_n (k := 0) (i := 0) X 0 rfl rfl d_Scene_weigh_22 ?_
    refine dk_get X q_Scene 18 5 (by decide) (oC_Scene g ad T S) rfl f_Scene_18 d_Scene_weigh_23 ?_
    refine dk_iload_n (k := 3) (i := 3) X 3 rfl rfl d_Scene_weigh_26 ?_
    refine dk_iald X 21 (aC_21 g ad T S) d_Scene_weigh_27 hF (fun v1 hF => ?_)
    refine dk_iload_n (k := 1) (i := 1) X 1 rfl rfl d_Scene_weigh_28 ?_
    refine dk_icmp_ne (tgt := 108) X (by decide) d_Scene_weigh_29 hF (fun hF => ?_) (fun hF => ?_)
    · exact (kb_Scene_weigh_108 (n := n) X hR hk14  hF)
    · refine dk_aload_n (k := 0) (i := 0) X 0 rfl rfl d_Scene_weigh_32 ?_
      refine dk_iload_n (k := 3) (i := 3) X 3 rfl rfl d_Scene_weigh_33 ?_
      refine dk_callVi X v_Scene_stands [.int x3] (c_Scene_stands l g ad T n x3 S) 18 (oC_Scene g ad T S) rfl rfl m_Scene_203 rfl rfl ⟨rfl, rfl, Nat.le_of_ble_eq_true rfl, Nat.le_of_ble_eq_true rfl, Nat.le_refl _, Nat.le_refl _⟩ (Nat.le_of_ble_eq_true rfl) d_Scene_weigh_34 hF (fun r3 S2 hF => ?_)
      refine dk_if_ne (tgt := 43) X (by decide) d_Scene_weigh_37 hF (fun hF => ?_) (fun hF => ?_)
      · refine dk_aload_n (k := 0) (i := 0) X 0 rfl rfl d_Scene_weigh_43 ?_
        refine dk_iload_n (k := 3) (i := 3) X 3 rfl rfl d_Scene_weigh_44 ?_
        refine dk_callVi X v_Scene_worth [.int x3] (c_Scene_worth l g ad T n x3 S2) 18 (oC_Scene g ad T S2) rfl rfl m_Scene_206 rfl rfl ⟨rfl, rfl, Nat.le_of_ble_eq_true rfl, Nat.le_of_ble_eq_true rfl, Nat.le_refl _, Nat.le_refl _⟩ (Nat.le_of_ble_eq_true rfl) d_Scene_weigh_45 hF (fun r5 S4 hF => ?_)
        refine dk_istore (i := 4) (lv' := [(4, .int r5), (0, .ref (ad 18)), (1, .int x1), (2, .int x2), (3, .int x3)]) X (by decide) rfl d_Scene_weigh_48 ?_
        refine dk_iload (i := 4) X 0 rfl d_Scene_weigh_50 ?_
        refine dk_iload_n (k := 2) (i := 2) X 3 rfl rfl d_Scene_weigh_52 ?_
        refine dk_icmp_le (tgt := 72) X (by decide) d_Scene_weigh_53 hF (fun hF => ?_) (fun hF => ?_)
        · refine dk_aload_n (k := 0) (i := 0) X 1 rfl rfl d_Scene_weigh_72 ?_
          refine dk_get X q_Scene 18 16 (by decide) (oC_Scene g ad T S4) rfl f_Scene_196 d_Scene_weigh_73 ?_
          refine dk_if_lt (tgt := 108) X (by decide) d_Scene_weigh_76 hF (fun hF => ?_) (fun hF => ?_)
          · exact dk_sub [1, 2, 3, 4] rfl (kb_Scene_weigh_108 (n := n) X hR hk14  hF)
          · refine dk_iload (i := 4) X 0 rfl d_Scene_weigh_79 ?_
            refine dk_iload_n (k := 2) (i := 2) X 3 rfl rfl d_Scene_weigh_81 ?_
            refine dk_icmp_ne (tgt := 108) X (by decide) d_Scene_weigh_82 hF (fun hF => ?_) (fun hF => ?_)
            · exact dk_sub [1, 2, 3, 4] rfl (kb_Scene_weigh_108 (n := n) X hR hk14  hF)
            · refine dk_aload_n (k := 0) (i := 0) X 1 rfl rfl d_Scene_weigh_85 ?_
              refine dk_get X q_Scene 18 4 (by decide) (oC_Scene g ad T S4) rfl f_Scene_15 d_Scene_weigh_86 ?_
              refine dk_iload_n (k := 3) (i := 3) X 4 rfl rfl d_Scene_weigh_89 ?_
              refine dk_iald X 20 (aC_20 g ad T S4) d_Scene_weigh_90 hF (fun v6 hF => ?_)
              refine dk_aload_n (k := 0) (i := 0) X 1 rfl rfl d_Scene_weigh_91 ?_
              refine dk_get X q_Scene 18 4 (by decide) (oC_Scene g ad T S4) rfl f_Scene_15 d_Scene_weigh_92 ?_
              refine dk_aload_n (k := 0) (i := 0) X 1 rfl rfl d_Scene_weigh_95 ?_
              refine dk_get X q_Scene 18 16 (by decide) (oC_Scene g ad T S4) rfl f_Scene_196 d_Scene_weigh_96 ?_
              refine dk_iald X 20 (aC_20 g ad T S4) d_Scene_weigh_99 hF (fun v7 hF => ?_)
              refine dk_icmp_eq (tgt := 108) X (by decide) d_Scene_weigh_100 hF (fun hF => ?_) (fun hF => ?_)
              · exact dk_sub [1, 2, 3, 4] rfl (kb_Scene_weigh_108 (n := n) X hR hk14  hF)
              · refine dk_aload_n (k := 0) (i := 0) X 1 rfl rfl d_Scene_weigh_103 ?_
                refine dk_iconst (v := 1) X (by decide) d_Scene_weigh_104 ?_
                refine dk_putz X q_Scene 18 17 (by decide) (oC_Scene g ad T S4) f_Scene_199 rfl rfl (Nat.le_of_ble_eq_true rfl) (sC_Scene_disputed g ad T S4 _) d_Scene_weigh_105 hF (fun S8 hF => ?_)
                exact dk_sub [1, 2, 3, 4] rfl (kb_Scene_weigh_108 (n := n) X hR hk14  hF)
        · refine dk_aload_n (k := 0) (i := 0) X 1 rfl rfl d_Scene_weigh_56 ?_
          refine dk_iload_n (k := 3) (i := 3) X 4 rfl rfl d_Scene_weigh_57 ?_
          refine dk_puti X q_Scene 18 16 (by decide) (oC_Scene g ad T S4) f_Scene_196 rfl rfl (Nat.le_of_ble_eq_true rfl) (sC_Scene_best g ad T S4 _) d_Scene_weigh_58 hF (fun S9 hF => ?_)
          refine dk_iload (i := 4) X 0 rfl d_Scene_weigh_61 ?_
          refine dk_istore_n (k := 2) (i := 2) (lv' := [(2, .int r5), (4, .int r5), (0, .ref (ad 18)), (1, .int x1), (3, .int x3)]) X rfl (by decide) rfl d_Scene_weigh_63 ?_
          refine dk_aload_n (k := 0) (i := 0) X 2 rfl rfl d_Scene_weigh_64 ?_
          refine dk_iconst (v := 0) X (by decide) d_Scene_weigh_65 ?_
          refine dk_putz X q_Scene 18 17 (by decide) (oC_Scene g ad T S9) f_Scene_199 rfl rfl (Nat.le_of_ble_eq_true rfl) (sC_Scene_disputed g ad T S9 _) d_Scene_weigh_66 hF (fun S10 hF => ?_)
          refine dk_goto (tgt := 108) X (by decide) d_Scene_weigh_69 ?_
          exact dk_sub [2, 3, 0, 4] rfl (kb_Scene_weigh_108 (n := n) X hR hk14  hF)
      · refine dk_goto (tgt := 108) X (by decide) d_Scene_weigh_40 ?_
        exact (kb_Scene_weigh_108 (n := n) X hR hk14  hF)
def B_Scene_weigh_14 (n T : Nat)  : Nat → Int32 → Int32 → Int32 → dk_S → Option dk_S
  | 0 => fun _ _ _ _ => none
  | q + 1 => fun x1 x2 x3 S => B_Scene_weigh_14b n T (fun x1 x2 x3 S => B_Scene_weigh_14 n T  q x1 x2 x3 S) x1 x2 x3 S
theorem kb_Scene_weigh_14 {p : Program} {l : Launch} {e : Env} {s : State} {m : MethodId} {args : Array Value} {below : List Frame} {meth : Method} {c : Code} {g : dk_G} {A : Nat → Prop} {Q : State → Prop} {ad : Nat → Nat} {T : Nat} {n : Nat} {res : dk_S} (X : dk_X p s m args meth c b_Scene_weigh 5 R_Scene (none) g A) (hR : dk_Rv p l e rm_Scene_weigh s m args below meth c g A Q 5 b_Scene_weigh (none) (wC g ad T) res)  : ∀ (q : Nat) (x1 : Int32) (x2 : Int32) (x3 : Int32)  (S : dk_S), B_Scene_weigh_14 n T  q x1 x2 x3 S = some res → dk_J p l e rm_Scene_weigh s m args below meth c g A Q 5 0 0 14 [(0, .ref (ad 18)), (1, .int x1), (2, .int x2), (3, .int x3)] [] (wC g ad T S) := by
  intro q
  induction q with
  | zero => intro x1 x2 x3  S hF; cases hF
  | succ q ih => intro x1 x2 x3  S hF; exact kb_Scene_weigh_14b (n := n) X hR ih  hF
def B_Scene_weigh_0 (n T : Nat)  (x1 : Int32) (S : dk_S) : Option dk_S :=
  dk_p S 117 (-1 : Int32) fun S11 => dk_b (0 : Int32) <| dk_p S11 118 (0 : Int32) fun S12 => B_Scene_weigh_14 n T  n x1 (0 : Int32) (0 : Int32) S12
set_option maxRecDepth 20000 in
theorem kb_Scene_weigh_0 {p : Program} {l : Launch} {e : Env} {s : State} {m : MethodId} {args : Array Value} {below : List Frame} {meth : Method} {c : Code} {g : dk_G} {A : Nat → Prop} {Q : State → Prop} {ad : Nat → Nat} {T : Nat} {n : Nat} {res : dk_S} (X : dk_X p s m args meth c b_Scene_weigh 5 R_Scene (none) g A) (hR : dk_Rv p l e rm_Scene_weigh s m args below meth c g A Q 5 b_Scene_weigh (none) (wC g ad T) res)  {x1 : Int32} {S : dk_S}  (hF : B_Scene_weigh_0 n T  x1 S = some res) : dk_J p l e rm_Scene_weigh s m args below meth c g A Q 5 0 0 0 [(0, .ref (ad 18)), (1, .int x1)] [] (wC g ad T S) := by
  unfold B_Scene_weigh_0 at hF
  refine dk_aload_n (k := 0) (i := 0) X 0 rfl rfl d_Scene_weigh_0 ?_
  refine dk_iconst (v := -1) X (by decide) d_Scene_weigh_1 ?_
  refine dk_puti X q_Scene 18 16 (by decide) (oC_Scene g ad T S) f_Scene_196 rfl rfl (Nat.le_of_ble_eq_true rfl) (sC_Scene_best g ad T S _) d_Scene_weigh_2 hF (fun S11 hF => ?_)
  refine dk_aload_n (k := 0) (i := 0) X 0 rfl rfl d_Scene_weigh_5 ?_
  refine dk_iconst (v := 0) X (by decide) d_Scene_weigh_6 ?_
  refine dk_putz X q_Scene 18 17 (by decide) (oC_Scene g ad T S11) f_Scene_199 rfl rfl (Nat.le_of_ble_eq_true rfl) (sC_Scene_disputed g ad T S11 _) d_Scene_weigh_7 hF (fun S12 hF => ?_)
  refine dk_iconst (v := 0) X (by decide) d_Scene_weigh_10 ?_
  refine dk_istore_n (k := 2) (i := 2) (lv' := [(2, .int (0 : Int32)), (0, .ref (ad 18)), (1, .int x1)]) X rfl (by decide) rfl d_Scene_weigh_11 ?_
  refine dk_iconst (v := 0) X (by decide) d_Scene_weigh_12 ?_
  refine dk_istore_n (k := 3) (i := 3) (lv' := [(3, .int (0 : Int32)), (2, .int (0 : Int32)), (0, .ref (ad 18)), (1, .int x1)]) X rfl (by decide) rfl d_Scene_weigh_13 ?_
  exact dk_sub [2, 3, 1, 0] rfl (kb_Scene_weigh_14 (n := n) X hR  n x1 (0 : Int32) (0 : Int32) S12 hF)
def F_Scene_weigh (n T : Nat) (x1 : Int32) (S : dk_S) : Option dk_S := B_Scene_weigh_0 n T x1 S
theorem c_Scene_weigh (l : Launch) (g : dk_G) (ad : Nat → Nat) (T n : Nat) (x1 : Int32)  (S : dk_S) : dk_Mv l g y_Scene_weigh b_Scene_weigh 5 rm_Scene_weigh (none) [.ref (ad 18), .int x1] (wC g ad T) S (F_Scene_weigh n T x1 S) := dk_enterv (by decide) rfl (Nat.le_of_ble_eq_true rfl) (fun p e s m args below meth c A Q res hF X hR => (kb_Scene_weigh_0 (n := n) X hR  hF))
abbrev b_Scene_possessor : ByteArray := prog_7_method_25_code
def y_Scene_possessor : MethodName := ⟨R_Scene, "possessor", "(I)I"⟩
theorem d_Scene_possessor_0 : decode b_Scene_possessor 0 = .ok (.aload_n 0, 1) := by decide +kernel
theorem d_Scene_possessor_1 : decode b_Scene_possessor 1 = .ok (.iload_n 1, 1) := by decide +kernel
theorem d_Scene_possessor_2 : decode b_Scene_possessor 2 = .ok (.invokevirtual 208, 3) := by decide +kernel
theorem d_Scene_possessor_5 : decode b_Scene_possessor 5 = .ok (.aload_n 0, 1) := by decide +kernel
theorem d_Scene_possessor_6 : decode b_Scene_possessor 6 = .ok (.getfield 196, 3) := by decide +kernel
theorem d_Scene_possessor_9 : decode b_Scene_possessor 9 = .ok (.ifCond .ge 7, 3) := by decide +kernel
theorem d_Scene_possessor_12 : decode b_Scene_possessor 12 = .ok (.iconst (-1), 1) := by decide +kernel
theorem d_Scene_possessor_13 : decode b_Scene_possessor 13 = .ok (.goto 12, 3) := by decide +kernel
theorem d_Scene_possessor_16 : decode b_Scene_possessor 16 = .ok (.aload_n 0, 1) := by decide +kernel
theorem d_Scene_possessor_17 : decode b_Scene_possessor 17 = .ok (.getfield 15, 3) := by decide +kernel
theorem d_Scene_possessor_20 : decode b_Scene_possessor 20 = .ok (.aload_n 0, 1) := by decide +kernel
theorem d_Scene_possessor_21 : decode b_Scene_possessor 21 = .ok (.getfield 196, 3) := by decide +kernel
theorem d_Scene_possessor_24 : decode b_Scene_possessor 24 = .ok (.iaload, 1) := by decide +kernel
theorem d_Scene_possessor_25 : decode b_Scene_possessor 25 = .ok (.ireturn, 1) := by decide +kernel
theorem v_Scene_possessor : dk_Yv y_Scene_possessor b_Scene_possessor 2 (some .int) 1 := ⟨dk_in (List.mem_of_getElem? (i := 782) (by decide +kernel)) rfl, dk_in (List.mem_of_getElem? (i := 783) (by decide +kernel)) rfl, dk_in (List.mem_of_getElem? (i := 72) (by decide +kernel)) rfl, dk_in (List.mem_of_getElem? (i := 784) (by decide +kernel)) rfl, by decide +kernel, by decide +kernel, by decide +kernel⟩
abbrev rm_Scene_possessor : Room := { frames := 5, cells := 0, slots := 0, locals := 116 }
theorem m_Scene_208 : Cond.methodLink R_Scene 208 y_Scene_weigh ∈ dk_tb := dk_in (List.mem_of_getElem? (i := 785) (by decide +kernel)) rfl
def B_Scene_possessor_0 (n T : Nat)  (x1 : Int32) (S : dk_S) : Option (Int32 × dk_S) :=
  dk_cv (F_Scene_weigh n T x1 S) fun S1 => if 0 ≤ (S1 117 0) then (dk_r 44 (S1 20) (S1 117 0) fun v3 => some (v3, S1)) else (some ((-1 : Int32), S1))
set_option maxRecDepth 20000 in
theorem kb_Scene_possessor_0 {p : Program} {l : Launch} {e : Env} {s : State} {m : MethodId} {args : Array Value} {below : List Frame} {meth : Method} {c : Code} {g : dk_G} {A : Nat → Prop} {Q : State → Prop} {ad : Nat → Nat} {T : Nat} {n : Nat} {res : (Int32 × dk_S)} (X : dk_X p s m args meth c b_Scene_possessor 2 R_Scene (some .int) g A) (hR : dk_Ri p l e rm_Scene_possessor s m args below meth c g A Q 2 b_Scene_possessor (some .int) (wC g ad T) res)  {x1 : Int32} {S : dk_S}  (hF : B_Scene_possessor_0 n T  x1 S = some res) : dk_J p l e rm_Scene_possessor s m args below meth c g A Q 2 0 0 0 [(0, .ref (ad 18)), (1, .int x1)] [] (wC g ad T S) := by
  unfold B_Scene_possessor_0 at hF
  refine dk_aload_n (k := 0) (i := 0) X 0 rfl rfl d_Scene_possessor_0 ?_
  refine dk_iload_n (k := 1) (i := 1) X 1 rfl rfl d_Scene_possessor_1 ?_
  refine dk_callVv X v_Scene_weigh [.int x1] (c_Scene_weigh l g ad T n x1 S) 18 (oC_Scene g ad T S) rfl rfl m_Scene_208 rfl rfl ⟨rfl, rfl, Nat.le_of_ble_eq_true rfl, Nat.le_of_ble_eq_true rfl, Nat.le_refl _, Nat.le_refl _⟩ (Nat.le_of_ble_eq_true rfl) d_Scene_possessor_2 hF (fun S1 hF => ?_)
  refine dk_aload_n (k := 0) (i := 0) X 0 rfl rfl d_Scene_possessor_5 ?_
  refine dk_get X q_Scene 18 16 (by decide) (oC_Scene g ad T S1) rfl f_Scene_196 d_Scene_possessor_6 ?_
  refine dk_if_ge (tgt := 16) X (by decide) d_Scene_possessor_9 hF (fun hF => ?_) (fun hF => ?_)
  · refine dk_aload_n (k := 0) (i := 0) X 0 rfl rfl d_Scene_possessor_16 ?_
    refine dk_get X q_Scene 18 4 (by decide) (oC_Scene g ad T S1) rfl f_Scene_15 d_Scene_possessor_17 ?_
    refine dk_aload_n (k := 0) (i := 0) X 0 rfl rfl d_Scene_possessor_20 ?_
    refine dk_get X q_Scene 18 16 (by decide) (oC_Scene g ad T S1) rfl f_Scene_196 d_Scene_possessor_21 ?_
    refine dk_iald X 20 (aC_20 g ad T S1) d_Scene_possessor_24 hF (fun v3 hF => ?_)
    exact dk_reti hR hF d_Scene_possessor_25
  · refine dk_iconst (v := -1) X (by decide) d_Scene_possessor_12 ?_
    refine dk_goto (tgt := 25) X (by decide) d_Scene_possessor_13 ?_
    exact dk_reti hR hF d_Scene_possessor_25
def F_Scene_possessor (n T : Nat) (x1 : Int32) (S : dk_S) : Option (Int32 × dk_S) := B_Scene_possessor_0 n T x1 S
theorem c_Scene_possessor (l : Launch) (g : dk_G) (ad : Nat → Nat) (T n : Nat) (x1 : Int32)  (S : dk_S) : dk_Mi l g y_Scene_possessor b_Scene_possessor 2 rm_Scene_possessor (some .int) [.ref (ad 18), .int x1] (wC g ad T) S (F_Scene_possessor n T x1 S) := dk_enteri (by decide) (Nat.le_of_ble_eq_true rfl) (fun p e s m args below meth c A Q res hF X hR => (kb_Scene_possessor_0 (n := n) X hR  hF))
abbrev b_Scene_tally : ByteArray := prog_7_method_27_code
def y_Scene_tally : MethodName := ⟨R_Scene, "tally", "(I)V"⟩
theorem d_Scene_tally_0 : decode b_Scene_tally 0 = .ok (.aload_n 0, 1) := by decide +kernel
theorem d_Scene_tally_1 : decode b_Scene_tally 1 = .ok (.iconst 0, 1) := by decide +kernel
theorem d_Scene_tally_2 : decode b_Scene_tally 2 = .ok (.putfield 214, 3) := by decide +kernel
theorem d_Scene_tally_5 : decode b_Scene_tally 5 = .ok (.aload_n 0, 1) := by decide +kernel
theorem d_Scene_tally_6 : decode b_Scene_tally 6 = .ok (.iconst 0, 1) := by decide +kernel
theorem d_Scene_tally_7 : decode b_Scene_tally 7 = .ok (.putfield 217, 3) := by decide +kernel
theorem d_Scene_tally_10 : decode b_Scene_tally 10 = .ok (.aload_n 0, 1) := by decide +kernel
theorem d_Scene_tally_11 : decode b_Scene_tally 11 = .ok (.invokevirtual 62, 3) := by decide +kernel
theorem d_Scene_tally_14 : decode b_Scene_tally 14 = .ok (.iconst 0, 1) := by decide +kernel
theorem d_Scene_tally_15 : decode b_Scene_tally 15 = .ok (.istore_n 2, 1) := by decide +kernel
theorem d_Scene_tally_16 : decode b_Scene_tally 16 = .ok (.iload_n 2, 1) := by decide +kernel
theorem d_Scene_tally_17 : decode b_Scene_tally 17 = .ok (.aload_n 0, 1) := by decide +kernel
theorem d_Scene_tally_18 : decode b_Scene_tally 18 = .ok (.getfield 50, 3) := by decide +kernel
theorem d_Scene_tally_21 : decode b_Scene_tally 21 = .ok (.getfield 69, 3) := by decide +kernel
theorem d_Scene_tally_24 : decode b_Scene_tally 24 = .ok (.if_icmp .gt 67, 3) := by decide +kernel
theorem d_Scene_tally_27 : decode b_Scene_tally 27 = .ok (.iload_n 2, 1) := by decide +kernel
theorem d_Scene_tally_28 : decode b_Scene_tally 28 = .ok (.ifCond .le 10, 3) := by decide +kernel
theorem d_Scene_tally_31 : decode b_Scene_tally 31 = .ok (.aload_n 0, 1) := by decide +kernel
theorem d_Scene_tally_32 : decode b_Scene_tally 32 = .ok (.iload_n 2, 1) := by decide +kernel
theorem d_Scene_tally_33 : decode b_Scene_tally 33 = .ok (.iconst 1, 1) := by decide +kernel
theorem d_Scene_tally_34 : decode b_Scene_tally 34 = .ok (.isub, 1) := by decide +kernel
theorem d_Scene_tally_35 : decode b_Scene_tally 35 = .ok (.invokevirtual 65, 3) := by decide +kernel
theorem d_Scene_tally_38 : decode b_Scene_tally 38 = .ok (.aload_n 0, 1) := by decide +kernel
theorem d_Scene_tally_39 : decode b_Scene_tally 39 = .ok (.iload_n 1, 1) := by decide +kernel
theorem d_Scene_tally_40 : decode b_Scene_tally 40 = .ok (.invokevirtual 208, 3) := by decide +kernel
theorem d_Scene_tally_43 : decode b_Scene_tally 43 = .ok (.aload_n 0, 1) := by decide +kernel
theorem d_Scene_tally_44 : decode b_Scene_tally 44 = .ok (.dup, 1) := by decide +kernel
theorem d_Scene_tally_45 : decode b_Scene_tally 45 = .ok (.getfield 214, 3) := by decide +kernel
theorem d_Scene_tally_48 : decode b_Scene_tally 48 = .ok (.aload_n 0, 1) := by decide +kernel
theorem d_Scene_tally_49 : decode b_Scene_tally 49 = .ok (.getfield 199, 3) := by decide +kernel
theorem d_Scene_tally_52 : decode b_Scene_tally 52 = .ok (.ifCond .eq 7, 3) := by decide +kernel
theorem d_Scene_tally_55 : decode b_Scene_tally 55 = .ok (.iconst 1, 1) := by decide +kernel
theorem d_Scene_tally_56 : decode b_Scene_tally 56 = .ok (.goto 4, 3) := by decide +kernel
theorem d_Scene_tally_59 : decode b_Scene_tally 59 = .ok (.iconst 0, 1) := by decide +kernel
theorem d_Scene_tally_60 : decode b_Scene_tally 60 = .ok (.iadd, 1) := by decide +kernel
theorem d_Scene_tally_61 : decode b_Scene_tally 61 = .ok (.putfield 214, 3) := by decide +kernel
theorem d_Scene_tally_64 : decode b_Scene_tally 64 = .ok (.aload_n 0, 1) := by decide +kernel
theorem d_Scene_tally_65 : decode b_Scene_tally 65 = .ok (.dup, 1) := by decide +kernel
theorem d_Scene_tally_66 : decode b_Scene_tally 66 = .ok (.getfield 217, 3) := by decide +kernel
theorem d_Scene_tally_69 : decode b_Scene_tally 69 = .ok (.aload_n 0, 1) := by decide +kernel
theorem d_Scene_tally_70 : decode b_Scene_tally 70 = .ok (.getfield 196, 3) := by decide +kernel
theorem d_Scene_tally_73 : decode b_Scene_tally 73 = .ok (.ifCond .ge 7, 3) := by decide +kernel
theorem d_Scene_tally_76 : decode b_Scene_tally 76 = .ok (.iconst 1, 1) := by decide +kernel
theorem d_Scene_tally_77 : decode b_Scene_tally 77 = .ok (.goto 4, 3) := by decide +kernel
theorem d_Scene_tally_80 : decode b_Scene_tally 80 = .ok (.iconst 0, 1) := by decide +kernel
theorem d_Scene_tally_81 : decode b_Scene_tally 81 = .ok (.iadd, 1) := by decide +kernel
theorem d_Scene_tally_82 : decode b_Scene_tally 82 = .ok (.putfield 217, 3) := by decide +kernel
theorem d_Scene_tally_85 : decode b_Scene_tally 85 = .ok (.iinc 2 1, 3) := by decide +kernel
theorem d_Scene_tally_88 : decode b_Scene_tally 88 = .ok (.goto (-72), 3) := by decide +kernel
theorem d_Scene_tally_91 : decode b_Scene_tally 91 = .ok (.return_, 1) := by decide +kernel
theorem v_Scene_tally : dk_Yv y_Scene_tally b_Scene_tally 3 (none) 1 := ⟨dk_in (List.mem_of_getElem? (i := 805) (by decide +kernel)) rfl, dk_in (List.mem_of_getElem? (i := 806) (by decide +kernel)) rfl, dk_in (List.mem_of_getElem? (i := 72) (by decide +kernel)) rfl, dk_in (List.mem_of_getElem? (i := 807) (by decide +kernel)) rfl, by decide +kernel, by decide +kernel, by decide +kernel⟩
abbrev rm_Scene_tally : Room := { frames := 5, cells := 0, slots := 0, locals := 116 }
theorem f_Scene_214 : Cond.fieldLink R_Scene 214 (T_Scene 18).1 (T_Scene 18).2.1 (T_Scene 18).2.2.1 ∈ dk_tb := dk_in (List.mem_of_getElem? (i := 279) (by decide +kernel)) rfl
theorem f_Scene_217 : Cond.fieldLink R_Scene 217 (T_Scene 19).1 (T_Scene 19).2.1 (T_Scene 19).2.2.1 ∈ dk_tb := dk_in (List.mem_of_getElem? (i := 281) (by decide +kernel)) rfl
theorem f_Scene_69 : Cond.fieldLink R_Scene 69 (T_Diary 6).1 (T_Diary 6).2.1 (T_Diary 6).2.2.1 ∈ dk_tb := dk_in (List.mem_of_getElem? (i := 151) (by decide +kernel)) rfl
def B_Scene_tally_81 (n T : Nat) (k16 : Int32 → Int32 → dk_S → Option dk_S) (x1 : Int32) (x2 : Int32) (u1 : Int32) (u2 : Int32) (S : dk_S) : Option dk_S :=
  dk_p S 120 (u1 + u2) fun S1 => k16 x1 (x2 + (1 : Int32)) S1
set_option maxRecDepth 20000 in
theorem kb_Scene_tally_81 {p : Program} {l : Launch} {e : Env} {s : State} {m : MethodId} {args : Array Value} {below : List Frame} {meth : Method} {c : Code} {g : dk_G} {A : Nat → Prop} {Q : State → Prop} {ad : Nat → Nat} {T : Nat} {n : Nat} {res : dk_S} (X : dk_X p s m args meth c b_Scene_tally 3 R_Scene (none) g A) (hR : dk_Rv p l e rm_Scene_tally s m args below meth c g A Q 3 b_Scene_tally (none) (wC g ad T) res) {k16 : Int32 → Int32 → dk_S → Option dk_S} (hk16 : ∀ (x1 : Int32) (x2 : Int32)  (S : dk_S), k16 x1 x2 S = some res → dk_J p l e rm_Scene_tally s m args below meth c g A Q 3 0 0 16 [(0, .ref (ad 18)), (1, .int x1), (2, .int x2)] [] (wC g ad T S)) {x1 : Int32} {x2 : Int32} {u1 : Int32} {u2 : Int32} {S : dk_S}  (hF : B_Scene_tally_81 n T k16 x1 x2 u1 u2 S = some res) : dk_J p l e rm_Scene_tally s m args below meth c g A Q 3 0 0 81 [(0, .ref (ad 18)), (1, .int x1), (2, .int x2)] [.int u2, .int u1, .ref (ad 18)] (wC g ad T S) := by
  unfold B_Scene_tally_81 at hF
  refine dk_iadd X d_Scene_tally_81 ?_
  refine dk_puti X q_Scene 18 19 (by decide) (oC_Scene g ad T S) f_Scene_217 rfl rfl (Nat.le_of_ble_eq_true rfl) (sC_Scene_unowned g ad T S _) d_Scene_tally_82 hF (fun S1 hF => ?_)
  refine dk_iinc (i := 2) (v := (x2 + (1 : Int32))) (lv' := [(2, .int (x2 + (1 : Int32))), (0, .ref (ad 18)), (1, .int x1)]) X 2 rfl (dk_ii _ (by decide)) (by decide) rfl d_Scene_tally_85 ?_
  refine dk_goto (tgt := 16) X (by decide) d_Scene_tally_88 ?_
  exact dk_sub [1, 2, 0] rfl (hk16 x1 (x2 + (1 : Int32)) S1 hF)
def B_Scene_tally_60 (n T : Nat) (k16 : Int32 → Int32 → dk_S → Option dk_S) (x1 : Int32) (x2 : Int32) (u1 : Int32) (u2 : Int32) (S : dk_S) : Option dk_S :=
  dk_p S 119 (u1 + u2) fun S2 => if 0 ≤ (S2 117 0) then (B_Scene_tally_81 n T k16 x1 x2 (S2 120 0) (0 : Int32) S2) else (B_Scene_tally_81 n T k16 x1 x2 (S2 120 0) (1 : Int32) S2)
set_option maxRecDepth 20000 in
theorem kb_Scene_tally_60 {p : Program} {l : Launch} {e : Env} {s : State} {m : MethodId} {args : Array Value} {below : List Frame} {meth : Method} {c : Code} {g : dk_G} {A : Nat → Prop} {Q : State → Prop} {ad : Nat → Nat} {T : Nat} {n : Nat} {res : dk_S} (X : dk_X p s m args meth c b_Scene_tally 3 R_Scene (none) g A) (hR : dk_Rv p l e rm_Scene_tally s m args below meth c g A Q 3 b_Scene_tally (none) (wC g ad T) res) {k16 : Int32 → Int32 → dk_S → Option dk_S} (hk16 : ∀ (x1 : Int32) (x2 : Int32)  (S : dk_S), k16 x1 x2 S = some res → dk_J p l e rm_Scene_tally s m args below meth c g A Q 3 0 0 16 [(0, .ref (ad 18)), (1, .int x1), (2, .int x2)] [] (wC g ad T S)) {x1 : Int32} {x2 : Int32} {u1 : Int32} {u2 : Int32} {S : dk_S}  (hF : B_Scene_tally_60 n T k16 x1 x2 u1 u2 S = some res) : dk_J p l e rm_Scene_tally s m args below meth c g A Q 3 0 0 60 [(0, .ref (ad 18)), (1, .int x1), (2, .int x2)] [.int u2, .int u1, .ref (ad 18)] (wC g ad T S) := by
  unfold B_Scene_tally_60 at hF
  refine dk_iadd X d_Scene_tally_60 ?_
  refine dk_puti X q_Scene 18 18 (by decide) (oC_Scene g ad T S) f_Scene_214 rfl rfl (Nat.le_of_ble_eq_true rfl) (sC_Scene_quarrels g ad T S _) d_Scene_tally_61 hF (fun S2 hF => ?_)
  refine dk_aload_n (k := 0) (i := 0) X 0 rfl rfl d_Scene_tally_64 ?_
  refine dk_dup X rfl d_Scene_tally_65 ?_
  refine dk_get X q_Scene 18 19 (by decide) (oC_Scene g ad T S2) rfl f_Scene_217 d_Scene_tally_66 ?_
  refine dk_aload_n (k := 0) (i := 0) X 0 rfl rfl d_Scene_tally_69 ?_
  refine dk_get X q_Scene 18 16 (by decide) (oC_Scene g ad T S2) rfl f_Scene_196 d_Scene_tally_70 ?_
  refine dk_if_ge (tgt := 80) X (by decide) d_Scene_tally_73 hF (fun hF => ?_) (fun hF => ?_)
  · refine dk_iconst (v := 0) X (by decide) d_Scene_tally_80 ?_
    exact (kb_Scene_tally_81 (n := n) X hR hk16  hF)
  · refine dk_iconst (v := 1) X (by decide) d_Scene_tally_76 ?_
    refine dk_goto (tgt := 81) X (by decide) d_Scene_tally_77 ?_
    exact (kb_Scene_tally_81 (n := n) X hR hk16  hF)
def B_Scene_tally_38 (n T : Nat) (k16 : Int32 → Int32 → dk_S → Option dk_S) (x1 : Int32) (x2 : Int32) (S : dk_S) : Option dk_S :=
  dk_cv (F_Scene_weigh n T x1 S) fun S3 => if (S3 118 0) = 0 then (B_Scene_tally_60 n T k16 x1 x2 (S3 119 0) (0 : Int32) S3) else (B_Scene_tally_60 n T k16 x1 x2 (S3 119 0) (1 : Int32) S3)
set_option maxRecDepth 20000 in
theorem kb_Scene_tally_38 {p : Program} {l : Launch} {e : Env} {s : State} {m : MethodId} {args : Array Value} {below : List Frame} {meth : Method} {c : Code} {g : dk_G} {A : Nat → Prop} {Q : State → Prop} {ad : Nat → Nat} {T : Nat} {n : Nat} {res : dk_S} (X : dk_X p s m args meth c b_Scene_tally 3 R_Scene (none) g A) (hR : dk_Rv p l e rm_Scene_tally s m args below meth c g A Q 3 b_Scene_tally (none) (wC g ad T) res) {k16 : Int32 → Int32 → dk_S → Option dk_S} (hk16 : ∀ (x1 : Int32) (x2 : Int32)  (S : dk_S), k16 x1 x2 S = some res → dk_J p l e rm_Scene_tally s m args below meth c g A Q 3 0 0 16 [(0, .ref (ad 18)), (1, .int x1), (2, .int x2)] [] (wC g ad T S)) {x1 : Int32} {x2 : Int32} {S : dk_S}  (hF : B_Scene_tally_38 n T k16 x1 x2 S = some res) : dk_J p l e rm_Scene_tally s m args below meth c g A Q 3 0 0 38 [(0, .ref (ad 18)), (1, .int x1), (2, .int x2)] [] (wC g ad T S) := by
  unfold B_Scene_tally_38 at hF
  refine dk_aload_n (k := 0) (i := 0) X 0 rfl rfl d_Scene_tally_38 ?_
  refine dk_iload_n (k := 1) (i := 1) X 1 rfl rfl d_Scene_tally_39 ?_
  refine dk_callVv X v_Scene_weigh [.int x1] (c_Scene_weigh l g ad T n x1 S) 18 (oC_Scene g ad T S) rfl rfl m_Scene_208 rfl rfl ⟨rfl, rfl, Nat.le_of_ble_eq_true rfl, Nat.le_of_ble_eq_true rfl, Nat.le_refl _, Nat.le_refl _⟩ (Nat.le_of_ble_eq_true rfl) d_Scene_tally_40 hF (fun S3 hF => ?_)
  refine dk_aload_n (k := 0) (i := 0) X 0 rfl rfl d_Scene_tally_43 ?_
  refine dk_dup X rfl d_Scene_tally_44 ?_
  refine dk_get X q_Scene 18 18 (by decide) (oC_Scene g ad T S3) rfl f_Scene_214 d_Scene_tally_45 ?_
  refine dk_aload_n (k := 0) (i := 0) X 0 rfl rfl d_Scene_tally_48 ?_
  refine dk_get X q_Scene 18 17 (by decide) (oC_Scene g ad T S3) rfl f_Scene_199 d_Scene_tally_49 ?_
  refine dk_if_eq (tgt := 59) X (by decide) d_Scene_tally_52 hF (fun hF => ?_) (fun hF => ?_)
  · refine dk_iconst (v := 0) X (by decide) d_Scene_tally_59 ?_
    exact (kb_Scene_tally_60 (n := n) X hR hk16  hF)
  · refine dk_iconst (v := 1) X (by decide) d_Scene_tally_55 ?_
    refine dk_goto (tgt := 60) X (by decide) d_Scene_tally_56 ?_
    exact (kb_Scene_tally_60 (n := n) X hR hk16  hF)
def B_Scene_tally_16b (n T : Nat) (k16 : Int32 → Int32 → dk_S → Option dk_S) (x1 : Int32) (x2 : Int32) (S : dk_S) : Option dk_S :=
  if (S 104 0) < x2 then (some S) else (if x2 ≤ 0 then (B_Scene_tally_38 n T k16 x1 x2 S) else (dk_cv (F_Scene_live n T (x2 - (1 : Int32)) S) fun S5 => B_Scene_tally_38 n T k16 x1 x2 S5))
set_option maxRecDepth 20000 in
theorem kb_Scene_tally_16b {p : Program} {l : Launch} {e : Env} {s : State} {m : MethodId} {args : Array Value} {below : List Frame} {meth : Method} {c : Code} {g : dk_G} {A : Nat → Prop} {Q : State → Prop} {ad : Nat → Nat} {T : Nat} {n : Nat} {res : dk_S} (X : dk_X p s m args meth c b_Scene_tally 3 R_Scene (none) g A) (hR : dk_Rv p l e rm_Scene_tally s m args below meth c g A Q 3 b_Scene_tally (none) (wC g ad T) res) {k16 : Int32 → Int32 → dk_S → Option dk_S} (hk16 : ∀ (x1 : Int32) (x2 : Int32)  (S : dk_S), k16 x1 x2 S = some res → dk_J p l e rm_Scene_tally s m args below meth c g A Q 3 0 0 16 [(0, .ref (ad 18)), (1, .int x1), (2, .int x2)] [] (wC g ad T S)) {x1 : Int32} {x2 : Int32} {S : dk_S}  (hF : B_Scene_tally_16b n T k16 x1 x2 S = some res) : dk_J p l e rm_Scene_tally s m args below meth c g A Q 3 0 0 16 [(0, .ref (ad 18)), (1, .int x1), (2, .int x2)] [] (wC g ad T S) := by
  unfold B_Scene_tally_16b at hF
  refine dk_iload_n (k := 2) (i := 2) X 2 rfl rfl d_Scene_tally_16 ?_
  refine dk_aload_n (k := 0) (i := 0) X 0 rfl rfl d_Scene_tally_17 ?_
  refine dk_get X q_Scene 18 1 (by decide) (oC_Scene g ad T S) rfl f_Scene_50 d_Scene_tally_18 ?_
  refine dk_get X q_Diary 5 6 (by decide) (oC_Diary g ad T S) rfl f_Scene_69 d_Scene_tally_21 ?_
  refine dk_icmp_gt (tgt := 91) X (by decide) d_Scene_tally_24 hF (fun hF => ?_) (fun hF => ?_)
  · exact dk_retv hR hF d_Scene_tally_91
  · refine dk_iload_n (k := 2) (i := 2) X 2 rfl rfl d_Scene_tally_27 ?_
    refine dk_if_le (tgt := 38) X (by decide) d_Scene_tally_28 hF (fun hF => ?_) (fun hF => ?_)
    · exact (kb_Scene_tally_38 (n := n) X hR hk16  hF)
    · refine dk_aload_n (k := 0) (i := 0) X 0 rfl rfl d_Scene_tally_31 ?_
      refine dk_iload_n (k := 2) (i := 2) X 2 rfl rfl d_Scene_tally_32 ?_
      refine dk_iconst (v := 1) X (by decide) d_Scene_tally_33 ?_
      refine dk_isub X d_Scene_tally_34 ?_
      refine dk_callVv X v_Scene_live [.int (x2 - (1 : Int32))] (c_Scene_live l g ad T n (x2 - (1 : Int32)) S) 18 (oC_Scene g ad T S) rfl rfl m_Scene_65 rfl rfl ⟨rfl, rfl, Nat.le_of_ble_eq_true rfl, Nat.le_of_ble_eq_true rfl, Nat.le_refl _, Nat.le_refl _⟩ (Nat.le_of_ble_eq_true rfl) d_Scene_tally_35 hF (fun S5 hF => ?_)
      exact (kb_Scene_tally_38 (n := n) X hR hk16  hF)
def B_Scene_tally_16 (n T : Nat)  : Nat → Int32 → Int32 → dk_S → Option dk_S
  | 0 => fun _ _ _ => none
  | q + 1 => fun x1 x2 S => B_Scene_tally_16b n T (fun x1 x2 S => B_Scene_tally_16 n T  q x1 x2 S) x1 x2 S
theorem kb_Scene_tally_16 {p : Program} {l : Launch} {e : Env} {s : State} {m : MethodId} {args : Array Value} {below : List Frame} {meth : Method} {c : Code} {g : dk_G} {A : Nat → Prop} {Q : State → Prop} {ad : Nat → Nat} {T : Nat} {n : Nat} {res : dk_S} (X : dk_X p s m args meth c b_Scene_tally 3 R_Scene (none) g A) (hR : dk_Rv p l e rm_Scene_tally s m args below meth c g A Q 3 b_Scene_tally (none) (wC g ad T) res)  : ∀ (q : Nat) (x1 : Int32) (x2 : Int32)  (S : dk_S), B_Scene_tally_16 n T  q x1 x2 S = some res → dk_J p l e rm_Scene_tally s m args below meth c g A Q 3 0 0 16 [(0, .ref (ad 18)), (1, .int x1), (2, .int x2)] [] (wC g ad T S) := by
  intro q
  induction q with
  | zero => intro x1 x2  S hF; cases hF
  | succ q ih => intro x1 x2  S hF; exact kb_Scene_tally_16b (n := n) X hR ih  hF
def B_Scene_tally_0 (n T : Nat)  (x1 : Int32) (S : dk_S) : Option dk_S :=
  dk_p S 119 (0 : Int32) fun S7 => dk_p S7 120 (0 : Int32) fun S8 => dk_cv (F_Scene_begin n T S8) fun S9 => B_Scene_tally_16 n T  n x1 (0 : Int32) S9
set_option maxRecDepth 20000 in
theorem kb_Scene_tally_0 {p : Program} {l : Launch} {e : Env} {s : State} {m : MethodId} {args : Array Value} {below : List Frame} {meth : Method} {c : Code} {g : dk_G} {A : Nat → Prop} {Q : State → Prop} {ad : Nat → Nat} {T : Nat} {n : Nat} {res : dk_S} (X : dk_X p s m args meth c b_Scene_tally 3 R_Scene (none) g A) (hR : dk_Rv p l e rm_Scene_tally s m args below meth c g A Q 3 b_Scene_tally (none) (wC g ad T) res)  {x1 : Int32} {S : dk_S}  (hF : B_Scene_tally_0 n T  x1 S = some res) : dk_J p l e rm_Scene_tally s m args below meth c g A Q 3 0 0 0 [(0, .ref (ad 18)), (1, .int x1)] [] (wC g ad T S) := by
  unfold B_Scene_tally_0 at hF
  refine dk_aload_n (k := 0) (i := 0) X 0 rfl rfl d_Scene_tally_0 ?_
  refine dk_iconst (v := 0) X (by decide) d_Scene_tally_1 ?_
  refine dk_puti X q_Scene 18 18 (by decide) (oC_Scene g ad T S) f_Scene_214 rfl rfl (Nat.le_of_ble_eq_true rfl) (sC_Scene_quarrels g ad T S _) d_Scene_tally_2 hF (fun S7 hF => ?_)
  refine dk_aload_n (k := 0) (i := 0) X 0 rfl rfl d_Scene_tally_5 ?_
  refine dk_iconst (v := 0) X (by decide) d_Scene_tally_6 ?_
  refine dk_puti X q_Scene 18 19 (by decide) (oC_Scene g ad T S7) f_Scene_217 rfl rfl (Nat.le_of_ble_eq_true rfl) (sC_Scene_unowned g ad T S7 _) d_Scene_tally_7 hF (fun S8 hF => ?_)
  refine dk_aload_n (k := 0) (i := 0) X 0 rfl rfl d_Scene_tally_10 ?_
  refine dk_callVv X v_Scene_begin [] (c_Scene_begin l g ad T n S8) 18 (oC_Scene g ad T S8) rfl rfl m_Scene_62 rfl rfl ⟨rfl, rfl, Nat.le_of_ble_eq_true rfl, Nat.le_of_ble_eq_true rfl, Nat.le_refl _, Nat.le_refl _⟩ (Nat.le_of_ble_eq_true rfl) d_Scene_tally_11 hF (fun S9 hF => ?_)
  refine dk_iconst (v := 0) X (by decide) d_Scene_tally_14 ?_
  refine dk_istore_n (k := 2) (i := 2) (lv' := [(2, .int (0 : Int32)), (0, .ref (ad 18)), (1, .int x1)]) X rfl (by decide) rfl d_Scene_tally_15 ?_
  exact dk_sub [1, 2, 0] rfl (kb_Scene_tally_16 (n := n) X hR  n x1 (0 : Int32) S9 hF)
def F_Scene_tally (n T : Nat) (x1 : Int32) (S : dk_S) : Option dk_S := B_Scene_tally_0 n T x1 S
theorem c_Scene_tally (l : Launch) (g : dk_G) (ad : Nat → Nat) (T n : Nat) (x1 : Int32)  (S : dk_S) : dk_Mv l g y_Scene_tally b_Scene_tally 3 rm_Scene_tally (none) [.ref (ad 18), .int x1] (wC g ad T) S (F_Scene_tally n T x1 S) := dk_enterv (by decide) rfl (Nat.le_of_ble_eq_true rfl) (fun p e s m args below meth c A Q res hF X hR => (kb_Scene_tally_0 (n := n) X hR  hF))
abbrev b_Scene_reachWithout : ByteArray := prog_7_method_4_code
def y_Scene_reachWithout : MethodName := ⟨R_Scene, "reachWithout", "(I)V"⟩
theorem d_Scene_reachWithout_0 : decode b_Scene_reachWithout 0 = .ok (.aload_n 0, 1) := by decide +kernel
theorem d_Scene_reachWithout_1 : decode b_Scene_reachWithout 1 = .ok (.invokevirtual 62, 3) := by decide +kernel
theorem d_Scene_reachWithout_4 : decode b_Scene_reachWithout 4 = .ok (.iconst 0, 1) := by decide +kernel
theorem d_Scene_reachWithout_5 : decode b_Scene_reachWithout 5 = .ok (.istore_n 2, 1) := by decide +kernel
theorem d_Scene_reachWithout_6 : decode b_Scene_reachWithout 6 = .ok (.iconst 0, 1) := by decide +kernel
theorem d_Scene_reachWithout_7 : decode b_Scene_reachWithout 7 = .ok (.istore_n 3, 1) := by decide +kernel
theorem d_Scene_reachWithout_8 : decode b_Scene_reachWithout 8 = .ok (.iload_n 3, 1) := by decide +kernel
theorem d_Scene_reachWithout_9 : decode b_Scene_reachWithout 9 = .ok (.aload_n 0, 1) := by decide +kernel
theorem d_Scene_reachWithout_10 : decode b_Scene_reachWithout 10 = .ok (.getfield 50, 3) := by decide +kernel
theorem d_Scene_reachWithout_13 : decode b_Scene_reachWithout 13 = .ok (.getfield 69, 3) := by decide +kernel
theorem d_Scene_reachWithout_16 : decode b_Scene_reachWithout 16 = .ok (.if_icmp .ge 53, 3) := by decide +kernel
theorem d_Scene_reachWithout_19 : decode b_Scene_reachWithout 19 = .ok (.iconst 1, 1) := by decide +kernel
theorem d_Scene_reachWithout_20 : decode b_Scene_reachWithout 20 = .ok (.istore 4, 2) := by decide +kernel
theorem d_Scene_reachWithout_22 : decode b_Scene_reachWithout 22 = .ok (.aload_n 0, 1) := by decide +kernel
theorem d_Scene_reachWithout_23 : decode b_Scene_reachWithout 23 = .ok (.getfield 50, 3) := by decide +kernel
theorem d_Scene_reachWithout_26 : decode b_Scene_reachWithout 26 = .ok (.getfield 72, 3) := by decide +kernel
theorem d_Scene_reachWithout_29 : decode b_Scene_reachWithout 29 = .ok (.iload_n 3, 1) := by decide +kernel
theorem d_Scene_reachWithout_30 : decode b_Scene_reachWithout 30 = .ok (.iaload, 1) := by decide +kernel
theorem d_Scene_reachWithout_31 : decode b_Scene_reachWithout 31 = .ok (.iconst 1, 1) := by decide +kernel
theorem d_Scene_reachWithout_32 : decode b_Scene_reachWithout 32 = .ok (.if_icmp .ne 21, 3) := by decide +kernel
theorem d_Scene_reachWithout_35 : decode b_Scene_reachWithout 35 = .ok (.iload_n 1, 1) := by decide +kernel
theorem d_Scene_reachWithout_36 : decode b_Scene_reachWithout 36 = .ok (.iload_n 2, 1) := by decide +kernel
theorem d_Scene_reachWithout_37 : decode b_Scene_reachWithout 37 = .ok (.ishr, 1) := by decide +kernel
theorem d_Scene_reachWithout_38 : decode b_Scene_reachWithout 38 = .ok (.iconst 1, 1) := by decide +kernel
theorem d_Scene_reachWithout_39 : decode b_Scene_reachWithout 39 = .ok (.iand, 1) := by decide +kernel
theorem d_Scene_reachWithout_40 : decode b_Scene_reachWithout 40 = .ok (.ifCond .ne 7, 3) := by decide +kernel
theorem d_Scene_reachWithout_43 : decode b_Scene_reachWithout 43 = .ok (.iconst 1, 1) := by decide +kernel
theorem d_Scene_reachWithout_44 : decode b_Scene_reachWithout 44 = .ok (.goto 4, 3) := by decide +kernel
theorem d_Scene_reachWithout_47 : decode b_Scene_reachWithout 47 = .ok (.iconst 0, 1) := by decide +kernel
theorem d_Scene_reachWithout_48 : decode b_Scene_reachWithout 48 = .ok (.istore 4, 2) := by decide +kernel
theorem d_Scene_reachWithout_50 : decode b_Scene_reachWithout 50 = .ok (.iinc 2 1, 3) := by decide +kernel
theorem d_Scene_reachWithout_53 : decode b_Scene_reachWithout 53 = .ok (.iload 4, 2) := by decide +kernel
theorem d_Scene_reachWithout_55 : decode b_Scene_reachWithout 55 = .ok (.ifCond .eq 8, 3) := by decide +kernel
theorem d_Scene_reachWithout_58 : decode b_Scene_reachWithout 58 = .ok (.aload_n 0, 1) := by decide +kernel
theorem d_Scene_reachWithout_59 : decode b_Scene_reachWithout 59 = .ok (.iload_n 3, 1) := by decide +kernel
theorem d_Scene_reachWithout_60 : decode b_Scene_reachWithout 60 = .ok (.invokevirtual 65, 3) := by decide +kernel
theorem d_Scene_reachWithout_63 : decode b_Scene_reachWithout 63 = .ok (.iinc 3 1, 3) := by decide +kernel
theorem d_Scene_reachWithout_66 : decode b_Scene_reachWithout 66 = .ok (.goto (-58), 3) := by decide +kernel
theorem d_Scene_reachWithout_69 : decode b_Scene_reachWithout 69 = .ok (.return_, 1) := by decide +kernel
theorem v_Scene_reachWithout : dk_Yv y_Scene_reachWithout b_Scene_reachWithout 5 (none) 1 := ⟨dk_in (List.mem_of_getElem? (i := 830) (by decide +kernel)) rfl, dk_in (List.mem_of_getElem? (i := 831) (by decide +kernel)) rfl, dk_in (List.mem_of_getElem? (i := 72) (by decide +kernel)) rfl, dk_in (List.mem_of_getElem? (i := 832) (by decide +kernel)) rfl, by decide +kernel, by decide +kernel, by decide +kernel⟩
abbrev rm_Scene_reachWithout : Room := { frames := 4, cells := 0, slots := 0, locals := 96 }
theorem f_Scene_72 : Cond.fieldLink R_Scene 72 (T_Diary 5).1 (T_Diary 5).2.1 (T_Diary 5).2.2.1 ∈ dk_tb := dk_in (List.mem_of_getElem? (i := 147) (by decide +kernel)) rfl
def B_Scene_reachWithout_63 (n T : Nat) (k8 : Int32 → Int32 → Int32 → dk_S → Option dk_S) (x1 : Int32) (x2 : Int32) (x3 : Int32) (S : dk_S) : Option dk_S :=
  k8 x1 x2 (x3 + (1 : Int32)) S
set_option maxRecDepth 20000 in
theorem kb_Scene_reachWithout_63 {p : Program} {l : Launch} {e : Env} {s : State} {m : MethodId} {args : Array Value} {below : List Frame} {meth : Method} {c : Code} {g : dk_G} {A : Nat → Prop} {Q : State → Prop} {ad : Nat → Nat} {T : Nat} {n : Nat} {res : dk_S} (X : dk_X p s m args meth c b_Scene_reachWithout 5 R_Scene (none) g A) (hR : dk_Rv p l e rm_Scene_reachWithout s m args below meth c g A Q 5 b_Scene_reachWithout (none) (wC g ad T) res) {k8 : Int32 → Int32 → Int32 → dk_S → Option dk_S} (hk8 : ∀ (x1 : Int32) (x2 : Int32) (x3 : Int32)  (S : dk_S), k8 x1 x2 x3 S = some res → dk_J p l e rm_Scene_reachWithout s m args below meth c g A Q 5 0 0 8 [(0, .ref (ad 18)), (1, .int x1), (2, .int x2), (3, .int x3)] [] (wC g ad T S)) {x1 : Int32} {x2 : Int32} {x3 : Int32} {S : dk_S}  (hF : B_Scene_reachWithout_63 n T k8 x1 x2 x3 S = some res) : dk_J p l e rm_Scene_reachWithout s m args below meth c g A Q 5 0 0 63 [(0, .ref (ad 18)), (1, .int x1), (2, .int x2), (3, .int x3)] [] (wC g ad T S) := by
  unfold B_Scene_reachWithout_63 at hF
  refine dk_iinc (i := 3) (v := (x3 + (1 : Int32))) (lv' := [(3, .int (x3 + (1 : Int32))), (0, .ref (ad 18)), (1, .int x1), (2, .int x2)]) X 3 rfl (dk_ii _ (by decide)) (by decide) rfl d_Scene_reachWithout_63 ?_
  refine dk_goto (tgt := 8) X (by decide) d_Scene_reachWithout_66 ?_
  exact dk_sub [1, 2, 3, 0] rfl (hk8 x1 x2 (x3 + (1 : Int32)) S hF)
def B_Scene_reachWithout_53 (n T : Nat) (k8 : Int32 → Int32 → Int32 → dk_S → Option dk_S) (x1 : Int32) (x2 : Int32) (x3 : Int32) (x4 : Int32) (S : dk_S) : Option dk_S :=
  if x4 = 0 then (B_Scene_reachWithout_63 n T k8 x1 x2 x3 S) else (dk_cv (F_Scene_live n T x3 S) fun S1 => B_Scene_reachWithout_63 n T k8 x1 x2 x3 S1)
set_option maxRecDepth 20000 in
theorem kb_Scene_reachWithout_53 {p : Program} {l : Launch} {e : Env} {s : State} {m : MethodId} {args : Array Value} {below : List Frame} {meth : Method} {c : Code} {g : dk_G} {A : Nat → Prop} {Q : State → Prop} {ad : Nat → Nat} {T : Nat} {n : Nat} {res : dk_S} (X : dk_X p s m args meth c b_Scene_reachWithout 5 R_Scene (none) g A) (hR : dk_Rv p l e rm_Scene_reachWithout s m args below meth c g A Q 5 b_Scene_reachWithout (none) (wC g ad T) res) {k8 : Int32 → Int32 → Int32 → dk_S → Option dk_S} (hk8 : ∀ (x1 : Int32) (x2 : Int32) (x3 : Int32)  (S : dk_S), k8 x1 x2 x3 S = some res → dk_J p l e rm_Scene_reachWithout s m args below meth c g A Q 5 0 0 8 [(0, .ref (ad 18)), (1, .int x1), (2, .int x2), (3, .int x3)] [] (wC g ad T S)) {x1 : Int32} {x2 : Int32} {x3 : Int32} {x4 : Int32} {S : dk_S}  (hF : B_Scene_reachWithout_53 n T k8 x1 x2 x3 x4 S = some res) : dk_J p l e rm_Scene_reachWithout s m args below meth c g A Q 5 0 0 53 [(0, .ref (ad 18)), (1, .int x1), (2, .int x2), (3, .int x3), (4, .int x4)] [] (wC g ad T S) := by
  unfold B_Scene_reachWithout_53 at hF
  refine dk_iload (i := 4) X 4 rfl d_Scene_reachWithout_53 ?_
  refine dk_if_eq (tgt := 63) X (by decide) d_Scene_reachWithout_55 hF (fun hF => ?_) (fun hF => ?_)
  · exact dk_sub [0, 1, 2, 3] rfl (kb_Scene_reachWithout_63 (n := n) X hR hk8  hF)
  · refine dk_aload_n (k := 0) (i := 0) X 0 rfl rfl d_Scene_reachWithout_58 ?_
    refine dk_iload_n (k := 3) (i := 3) X 3 rfl rfl d_Scene_reachWithout_59 ?_
    refine dk_callVv X v_Scene_live [.int x3] (c_Scene_live l g ad T n x3 S) 18 (oC_Scene g ad T S) rfl rfl m_Scene_65 rfl rfl ⟨rfl, rfl, Nat.le_of_ble_eq_true rfl, Nat.le_of_ble_eq_true rfl, Nat.le_refl _, Nat.le_refl _⟩ (Nat.le_of_ble_eq_true rfl) d_Scene_reachWithout_60 hF (fun S1 hF => ?_)
    exact dk_sub [0, 1, 2, 3] rfl (kb_Scene_reachWithout_63 (n := n) X hR hk8  hF)
def B_Scene_reachWithout_48 (n T : Nat) (k8 : Int32 → Int32 → Int32 → dk_S → Option dk_S) (x1 : Int32) (x2 : Int32) (x3 : Int32) (u0 : Int32) (S : dk_S) : Option dk_S :=
  B_Scene_reachWithout_53 n T k8 x1 (x2 + (1 : Int32)) x3 u0 S
set_option maxRecDepth 20000 in
theorem kb_Scene_reachWithout_48 {p : Program} {l : Launch} {e : Env} {s : State} {m : MethodId} {args : Array Value} {below : List Frame} {meth : Method} {c : Code} {g : dk_G} {A : Nat → Prop} {Q : State → Prop} {ad : Nat → Nat} {T : Nat} {n : Nat} {res : dk_S} (X : dk_X p s m args meth c b_Scene_reachWithout 5 R_Scene (none) g A) (hR : dk_Rv p l e rm_Scene_reachWithout s m args below meth c g A Q 5 b_Scene_reachWithout (none) (wC g ad T) res) {k8 : Int32 → Int32 → Int32 → dk_S → Option dk_S} (hk8 : ∀ (x1 : Int32) (x2 : Int32) (x3 : Int32)  (S : dk_S), k8 x1 x2 x3 S = some res → dk_J p l e rm_Scene_reachWithout s m args below meth c g A Q 5 0 0 8 [(0, .ref (ad 18)), (1, .int x1), (2, .int x2), (3, .int x3)] [] (wC g ad T S)) {x1 : Int32} {x2 : Int32} {x3 : Int32} {u0 : Int32} {S : dk_S}  (hF : B_Scene_reachWithout_48 n T k8 x1 x2 x3 u0 S = some res) : dk_J p l e rm_Scene_reachWithout s m args below meth c g A Q 5 0 0 48 [(0, .ref (ad 18)), (1, .int x1), (2, .int x2), (3, .int x3)] [.int u0] (wC g ad T S) := by
  unfold B_Scene_reachWithout_48 at hF
  refine dk_istore (i := 4) (lv' := [(4, .int u0), (0, .ref (ad 18)), (1, .int x1), (2, .int x2), (3, .int x3)]) X (by decide) rfl d_Scene_reachWithout_48 ?_
  refine dk_iinc (i := 2) (v := (x2 + (1 : Int32))) (lv' := [(2, .int (x2 + (1 : Int32))), (4, .int u0), (0, .ref (ad 18)), (1, .int x1), (3, .int x3)]) X 3 rfl (dk_ii _ (by decide)) (by decide) rfl d_Scene_reachWithout_50 ?_
  exact dk_sub [2, 3, 0, 4, 1] rfl (kb_Scene_reachWithout_53 (n := n) X hR hk8  hF)
def B_Scene_reachWithout_8b (n T : Nat) (k8 : Int32 → Int32 → Int32 → dk_S → Option dk_S) (x1 : Int32) (x2 : Int32) (x3 : Int32) (S : dk_S) : Option dk_S :=
  if (S 104 0) ≤ x3 then (some S) else (dk_r 32 (S 11) x3 fun v3 => if ¬ v3 = (1 : Int32) then (B_Scene_reachWithout_53 n T k8 x1 x2 x3 (1 : Int32) S) else (if ¬ ((x1 >>> (x2 &&& 31)) &&& (1 : Int32)) = 0 then (B_Scene_reachWithout_48 n T k8 x1 x2 x3 (0 : Int32) S) else (B_Scene_reachWithout_48 n T k8 x1 x2 x3 (1 : Int32) S)))
set_option maxRecDepth 20000 in
theorem kb_Scene_reachWithout_8b {p : Program} {l : Launch} {e : Env} {s : State} {m : MethodId} {args : Array Value} {below : List Frame} {meth : Method} {c : Code} {g : dk_G} {A : Nat → Prop} {Q : State → Prop} {ad : Nat → Nat} {T : Nat} {n : Nat} {res : dk_S} (X : dk_X p s m args meth c b_Scene_reachWithout 5 R_Scene (none) g A) (hR : dk_Rv p l e rm_Scene_reachWithout s m args below meth c g A Q 5 b_Scene_reachWithout (none) (wC g ad T) res) {k8 : Int32 → Int32 → Int32 → dk_S → Option dk_S} (hk8 : ∀ (x1 : Int32) (x2 : Int32) (x3 : Int32)  (S : dk_S), k8 x1 x2 x3 S = some res → dk_J p l e rm_Scene_reachWithout s m args below meth c g A Q 5 0 0 8 [(0, .ref (ad 18)), (1, .int x1), (2, .int x2), (3, .int x3)] [] (wC g ad T S)) {x1 : Int32} {x2 : Int32} {x3 : Int32} {S : dk_S}  (hF : B_Scene_reachWithout_8b n T k8 x1 x2 x3 S = some res) : dk_J p l e rm_Scene_reachWithout s m args below meth c g A Q 5 0 0 8 [(0, .ref (ad 18)), (1, .int x1), (2, .int x2), (3, .int x3)] [] (wC g ad T S) := by
  unfold B_Scene_reachWithout_8b at hF
  refine dk_iload_n (k := 3) (i := 3) X 3 rfl rfl d_Scene_reachWithout_8 ?_
  refine dk_aload_n (k := 0) (i := 0) X 0 rfl rfl d_Scene_reachWithout_9 ?_
  refine dk_get X q_Scene 18 1 (by decide) (oC_Scene g ad T S) rfl f_Scene_50 d_Scene_reachWithout_10 ?_
  refine dk_get X q_Diary 5 6 (by decide) (oC_Diary g ad T S) rfl f_Scene_69 d_Scene_reachWithout_13 ?_
  refine dk_icmp_ge (tgt := 69) X (by decide) d_Scene_reachWithout_16 hF (fun hF => ?_) (fun hF => ?_)
  · exact dk_retv hR hF d_Scene_reachWithout_69
  · refine dk_iconst (v := 1) X (by decide) d_Scene_reachWithout_19 ?_
    refine dk_istore (i := 4) (lv' := [(4, .int (1 : Int32)), (0, .ref (ad 18)), (1, .int x1), (2, .int x2), (3, .int x3)]) X (by decide) rfl d_Scene_reachWithout_20 ?_
    refine dk_aload_n (k := 0) (i := 0) X 1 rfl rfl d_Scene_reachWithout_22 ?_
    refine dk_get X q_Scene 18 1 (by decide) (oC_Scene g ad T S) rfl f_Scene_50 d_Scene_reachWithout_23 ?_
    refine dk_get X q_Diary 5 5 (by decide) (oC_Diary g ad T S) rfl f_Scene_72 d_Scene_reachWithout_26 ?_
    refine dk_iload_n (k := 3) (i := 3) X 4 rfl rfl d_Scene_reachWithout_29 ?_
    refine dk_iald X 11 (aC_11 g ad T S) d_Scene_reachWithout_30 hF (fun v3 hF => ?_)
    refine dk_iconst (v := 1) X (by decide) d_Scene_reachWithout_31 ?_
    refine dk_icmp_ne (tgt := 53) X (by decide) d_Scene_reachWithout_32 hF (fun hF => ?_) (fun hF => ?_)
    · exact dk_sub [1, 2, 3, 4, 0] rfl (kb_Scene_reachWithout_53 (n := n) X hR hk8  hF)
    · refine dk_iload_n (k := 1) (i := 1) X 2 rfl rfl d_Scene_reachWithout_35 ?_
      refine dk_iload_n (k := 2) (i := 2) X 3 rfl rfl d_Scene_reachWithout_36 ?_
      refine dk_ishr X d_Scene_reachWithout_37 ?_
      refine dk_iconst (v := 1) X (by decide) d_Scene_reachWithout_38 ?_
      refine dk_iand X d_Scene_reachWithout_39 ?_
      refine dk_if_ne (tgt := 47) X (by decide) d_Scene_reachWithout_40 hF (fun hF => ?_) (fun hF => ?_)
      · refine dk_iconst (v := 0) X (by decide) d_Scene_reachWithout_47 ?_
        exact dk_sub [1, 2, 3, 4] rfl (kb_Scene_reachWithout_48 (n := n) X hR hk8  hF)
      · refine dk_iconst (v := 1) X (by decide) d_Scene_reachWithout_43 ?_
        refine dk_goto (tgt := 48) X (by decide) d_Scene_reachWithout_44 ?_
        exact dk_sub [1, 2, 3, 4] rfl (kb_Scene_reachWithout_48 (n := n) X hR hk8  hF)
def B_Scene_reachWithout_8 (n T : Nat)  : Nat → Int32 → Int32 → Int32 → dk_S → Option dk_S
  | 0 => fun _ _ _ _ => none
  | q + 1 => fun x1 x2 x3 S => B_Scene_reachWithout_8b n T (fun x1 x2 x3 S => B_Scene_reachWithout_8 n T  q x1 x2 x3 S) x1 x2 x3 S
theorem kb_Scene_reachWithout_8 {p : Program} {l : Launch} {e : Env} {s : State} {m : MethodId} {args : Array Value} {below : List Frame} {meth : Method} {c : Code} {g : dk_G} {A : Nat → Prop} {Q : State → Prop} {ad : Nat → Nat} {T : Nat} {n : Nat} {res : dk_S} (X : dk_X p s m args meth c b_Scene_reachWithout 5 R_Scene (none) g A) (hR : dk_Rv p l e rm_Scene_reachWithout s m args below meth c g A Q 5 b_Scene_reachWithout (none) (wC g ad T) res)  : ∀ (q : Nat) (x1 : Int32) (x2 : Int32) (x3 : Int32)  (S : dk_S), B_Scene_reachWithout_8 n T  q x1 x2 x3 S = some res → dk_J p l e rm_Scene_reachWithout s m args below meth c g A Q 5 0 0 8 [(0, .ref (ad 18)), (1, .int x1), (2, .int x2), (3, .int x3)] [] (wC g ad T S) := by
  intro q
  induction q with
  | zero => intro x1 x2 x3  S hF; cases hF
  | succ q ih => intro x1 x2 x3  S hF; exact kb_Scene_reachWithout_8b (n := n) X hR ih  hF
def B_Scene_reachWithout_0 (n T : Nat)  (x1 : Int32) (S : dk_S) : Option dk_S :=
  dk_cv (F_Scene_begin n T S) fun S4 => B_Scene_reachWithout_8 n T  n x1 (0 : Int32) (0 : Int32) S4
set_option maxRecDepth 20000 in
theorem kb_Scene_reachWithout_0 {p : Program} {l : Launch} {e : Env} {s : State} {m : MethodId} {args : Array Value} {below : List Frame} {meth : Method} {c : Code} {g : dk_G} {A : Nat → Prop} {Q : State → Prop} {ad : Nat → Nat} {T : Nat} {n : Nat} {res : dk_S} (X : dk_X p s m args meth c b_Scene_reachWithout 5 R_Scene (none) g A) (hR : dk_Rv p l e rm_Scene_reachWithout s m args below meth c g A Q 5 b_Scene_reachWithout (none) (wC g ad T) res)  {x1 : Int32} {S : dk_S}  (hF : B_Scene_reachWithout_0 n T  x1 S = some res) : dk_J p l e rm_Scene_reachWithout s m args below meth c g A Q 5 0 0 0 [(0, .ref (ad 18)), (1, .int x1)] [] (wC g ad T S) := by
  unfold B_Scene_reachWithout_0 at hF
  refine dk_aload_n (k := 0) (i := 0) X 0 rfl rfl d_Scene_reachWithout_0 ?_
  refine dk_callVv X v_Scene_begin [] (c_Scene_begin l g ad T n S) 18 (oC_Scene g ad T S) rfl rfl m_Scene_62 rfl rfl ⟨rfl, rfl, Nat.le_of_ble_eq_true rfl, Nat.le_of_ble_eq_true rfl, Nat.le_refl _, Nat.le_refl _⟩ (Nat.le_of_ble_eq_true rfl) d_Scene_reachWithout_1 hF (fun S4 hF => ?_)
  refine dk_iconst (v := 0) X (by decide) d_Scene_reachWithout_4 ?_
  refine dk_istore_n (k := 2) (i := 2) (lv' := [(2, .int (0 : Int32)), (0, .ref (ad 18)), (1, .int x1)]) X rfl (by decide) rfl d_Scene_reachWithout_5 ?_
  refine dk_iconst (v := 0) X (by decide) d_Scene_reachWithout_6 ?_
  refine dk_istore_n (k := 3) (i := 3) (lv' := [(3, .int (0 : Int32)), (2, .int (0 : Int32)), (0, .ref (ad 18)), (1, .int x1)]) X rfl (by decide) rfl d_Scene_reachWithout_7 ?_
  exact dk_sub [2, 3, 1, 0] rfl (kb_Scene_reachWithout_8 (n := n) X hR  n x1 (0 : Int32) (0 : Int32) S4 hF)
def F_Scene_reachWithout (n T : Nat) (x1 : Int32) (S : dk_S) : Option dk_S := B_Scene_reachWithout_0 n T x1 S
theorem c_Scene_reachWithout (l : Launch) (g : dk_G) (ad : Nat → Nat) (T n : Nat) (x1 : Int32)  (S : dk_S) : dk_Mv l g y_Scene_reachWithout b_Scene_reachWithout 5 rm_Scene_reachWithout (none) [.ref (ad 18), .int x1] (wC g ad T) S (F_Scene_reachWithout n T x1 S) := dk_enterv (by decide) rfl (Nat.le_of_ble_eq_true rfl) (fun p e s m args below meth c A Q res hF X hR => (kb_Scene_reachWithout_0 (n := n) X hR  hF))
abbrev b_Scene_possessorWithout : ByteArray := prog_7_method_26_code
def y_Scene_possessorWithout : MethodName := ⟨R_Scene, "possessorWithout", "(II)I"⟩
theorem d_Scene_possessorWithout_0 : decode b_Scene_possessorWithout 0 = .ok (.aload_n 0, 1) := by decide +kernel
theorem d_Scene_possessorWithout_1 : decode b_Scene_possessorWithout 1 = .ok (.iload_n 2, 1) := by decide +kernel
theorem d_Scene_possessorWithout_2 : decode b_Scene_possessorWithout 2 = .ok (.invokevirtual 211, 3) := by decide +kernel
theorem d_Scene_possessorWithout_5 : decode b_Scene_possessorWithout 5 = .ok (.aload_n 0, 1) := by decide +kernel
theorem d_Scene_possessorWithout_6 : decode b_Scene_possessorWithout 6 = .ok (.iload_n 1, 1) := by decide +kernel
theorem d_Scene_possessorWithout_7 : decode b_Scene_possessorWithout 7 = .ok (.invokevirtual 208, 3) := by decide +kernel
theorem d_Scene_possessorWithout_10 : decode b_Scene_possessorWithout 10 = .ok (.aload_n 0, 1) := by decide +kernel
theorem d_Scene_possessorWithout_11 : decode b_Scene_possessorWithout 11 = .ok (.getfield 196, 3) := by decide +kernel
theorem d_Scene_possessorWithout_14 : decode b_Scene_possessorWithout 14 = .ok (.ifCond .ge 7, 3) := by decide +kernel
theorem d_Scene_possessorWithout_17 : decode b_Scene_possessorWithout 17 = .ok (.iconst (-1), 1) := by decide +kernel
theorem d_Scene_possessorWithout_18 : decode b_Scene_possessorWithout 18 = .ok (.goto 12, 3) := by decide +kernel
theorem d_Scene_possessorWithout_21 : decode b_Scene_possessorWithout 21 = .ok (.aload_n 0, 1) := by decide +kernel
theorem d_Scene_possessorWithout_22 : decode b_Scene_possessorWithout 22 = .ok (.getfield 15, 3) := by decide +kernel
theorem d_Scene_possessorWithout_25 : decode b_Scene_possessorWithout 25 = .ok (.aload_n 0, 1) := by decide +kernel
theorem d_Scene_possessorWithout_26 : decode b_Scene_possessorWithout 26 = .ok (.getfield 196, 3) := by decide +kernel
theorem d_Scene_possessorWithout_29 : decode b_Scene_possessorWithout 29 = .ok (.iaload, 1) := by decide +kernel
theorem d_Scene_possessorWithout_30 : decode b_Scene_possessorWithout 30 = .ok (.ireturn, 1) := by decide +kernel
theorem v_Scene_possessorWithout : dk_Yv y_Scene_possessorWithout b_Scene_possessorWithout 3 (some .int) 2 := ⟨dk_in (List.mem_of_getElem? (i := 826) (by decide +kernel)) rfl, dk_in (List.mem_of_getElem? (i := 827) (by decide +kernel)) rfl, dk_in (List.mem_of_getElem? (i := 72) (by decide +kernel)) rfl, dk_in (List.mem_of_getElem? (i := 828) (by decide +kernel)) rfl, by decide +kernel, by decide +kernel, by decide +kernel⟩
abbrev rm_Scene_possessorWithout : Room := { frames := 5, cells := 0, slots := 0, locals := 120 }
theorem m_Scene_211 : Cond.methodLink R_Scene 211 y_Scene_reachWithout ∈ dk_tb := dk_in (List.mem_of_getElem? (i := 829) (by decide +kernel)) rfl
def B_Scene_possessorWithout_0 (n T : Nat)  (x1 : Int32) (x2 : Int32) (S : dk_S) : Option (Int32 × dk_S) :=
  dk_cv (F_Scene_reachWithout n T x2 S) fun S1 => dk_cv (F_Scene_weigh n T x1 S1) fun S3 => if 0 ≤ (S3 117 0) then (dk_r 44 (S3 20) (S3 117 0) fun v5 => some (v5, S3)) else (some ((-1 : Int32), S3))
set_option maxRecDepth 20000 in
theorem kb_Scene_possessorWithout_0 {p : Program} {l : Launch} {e : Env} {s : State} {m : MethodId} {args : Array Value} {below : List Frame} {meth : Method} {c : Code} {g : dk_G} {A : Nat → Prop} {Q : State → Prop} {ad : Nat → Nat} {T : Nat} {n : Nat} {res : (Int32 × dk_S)} (X : dk_X p s m args meth c b_Scene_possessorWithout 3 R_Scene (some .int) g A) (hR : dk_Ri p l e rm_Scene_possessorWithout s m args below meth c g A Q 3 b_Scene_possessorWithout (some .int) (wC g ad T) res)  {x1 : Int32} {x2 : Int32} {S : dk_S}  (hF : B_Scene_possessorWithout_0 n T  x1 x2 S = some res) : dk_J p l e rm_Scene_possessorWithout s m args below meth c g A Q 3 0 0 0 [(0, .ref (ad 18)), (1, .int x1), (2, .int x2)] [] (wC g ad T S) := by
  unfold B_Scene_possessorWithout_0 at hF
  refine dk_aload_n (k := 0) (i := 0) X 0 rfl rfl d_Scene_possessorWithout_0 ?_
  refine dk_iload_n (k := 2) (i := 2) X 2 rfl rfl d_Scene_possessorWithout_1 ?_
  refine dk_callVv X v_Scene_reachWithout [.int x2] (c_Scene_reachWithout l g ad T n x2 S) 18 (oC_Scene g ad T S) rfl rfl m_Scene_211 rfl rfl ⟨rfl, rfl, Nat.le_of_ble_eq_true rfl, Nat.le_of_ble_eq_true rfl, Nat.le_refl _, Nat.le_refl _⟩ (Nat.le_of_ble_eq_true rfl) d_Scene_possessorWithout_2 hF (fun S1 hF => ?_)
  refine dk_aload_n (k := 0) (i := 0) X 0 rfl rfl d_Scene_possessorWithout_5 ?_
  refine dk_iload_n (k := 1) (i := 1) X 1 rfl rfl d_Scene_possessorWithout_6 ?_
  refine dk_callVv X v_Scene_weigh [.int x1] (c_Scene_weigh l g ad T n x1 S1) 18 (oC_Scene g ad T S1) rfl rfl m_Scene_208 rfl rfl ⟨rfl, rfl, Nat.le_of_ble_eq_true rfl, Nat.le_of_ble_eq_true rfl, Nat.le_refl _, Nat.le_refl _⟩ (Nat.le_of_ble_eq_true rfl) d_Scene_possessorWithout_7 hF (fun S3 hF => ?_)
  refine dk_aload_n (k := 0) (i := 0) X 0 rfl rfl d_Scene_possessorWithout_10 ?_
  refine dk_get X q_Scene 18 16 (by decide) (oC_Scene g ad T S3) rfl f_Scene_196 d_Scene_possessorWithout_11 ?_
  refine dk_if_ge (tgt := 21) X (by decide) d_Scene_possessorWithout_14 hF (fun hF => ?_) (fun hF => ?_)
  · refine dk_aload_n (k := 0) (i := 0) X 0 rfl rfl d_Scene_possessorWithout_21 ?_
    refine dk_get X q_Scene 18 4 (by decide) (oC_Scene g ad T S3) rfl f_Scene_15 d_Scene_possessorWithout_22 ?_
    refine dk_aload_n (k := 0) (i := 0) X 0 rfl rfl d_Scene_possessorWithout_25 ?_
    refine dk_get X q_Scene 18 16 (by decide) (oC_Scene g ad T S3) rfl f_Scene_196 d_Scene_possessorWithout_26 ?_
    refine dk_iald X 20 (aC_20 g ad T S3) d_Scene_possessorWithout_29 hF (fun v5 hF => ?_)
    exact dk_reti hR hF d_Scene_possessorWithout_30
  · refine dk_iconst (v := -1) X (by decide) d_Scene_possessorWithout_17 ?_
    refine dk_goto (tgt := 30) X (by decide) d_Scene_possessorWithout_18 ?_
    exact dk_reti hR hF d_Scene_possessorWithout_30
def F_Scene_possessorWithout (n T : Nat) (x1 : Int32) (x2 : Int32) (S : dk_S) : Option (Int32 × dk_S) := B_Scene_possessorWithout_0 n T x1 x2 S
theorem c_Scene_possessorWithout (l : Launch) (g : dk_G) (ad : Nat → Nat) (T n : Nat) (x1 : Int32) (x2 : Int32)  (S : dk_S) : dk_Mi l g y_Scene_possessorWithout b_Scene_possessorWithout 3 rm_Scene_possessorWithout (some .int) [.ref (ad 18), .int x1, .int x2] (wC g ad T) S (F_Scene_possessorWithout n T x1 x2 S) := dk_enteri (by decide) (Nat.le_of_ble_eq_true rfl) (fun p e s m args below meth c A Q res hF X hR => (kb_Scene_possessorWithout_0 (n := n) X hR  hF))
end
