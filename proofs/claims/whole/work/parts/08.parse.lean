abbrev b_Reader_readEither : ByteArray := prog_5_method_5_code
def y_Reader_readEither : MethodName := ⟨R_Reader, "readEither", "()V"⟩
abbrev b_Reader_readBoth : ByteArray := prog_5_method_6_code
def y_Reader_readBoth : MethodName := ⟨R_Reader, "readBoth", "()V"⟩
abbrev b_Reader_readNot : ByteArray := prog_5_method_7_code
def y_Reader_readNot : MethodName := ⟨R_Reader, "readNot", "()V"⟩
abbrev b_Reader_readCompared : ByteArray := prog_5_method_8_code
def y_Reader_readCompared : MethodName := ⟨R_Reader, "readCompared", "()V"⟩
abbrev b_Reader_readSum : ByteArray := prog_5_method_9_code
def y_Reader_readSum : MethodName := ⟨R_Reader, "readSum", "()V"⟩
abbrev b_Reader_readTerm : ByteArray := prog_5_method_10_code
def y_Reader_readTerm : MethodName := ⟨R_Reader, "readTerm", "()V"⟩
abbrev b_Reader_readOne : ByteArray := prog_5_method_11_code
def y_Reader_readOne : MethodName := ⟨R_Reader, "readOne", "()V"⟩
theorem d_Reader_readEither_0 : decode b_Reader_readEither 0 = .ok (.aload_n 0, 1) := by decide +kernel
theorem d_Reader_readEither_1 : decode b_Reader_readEither 1 = .ok (.invokevirtual 59, 3) := by decide +kernel
theorem d_Reader_readEither_4 : decode b_Reader_readEither 4 = .ok (.iconst 0, 1) := by decide +kernel
theorem d_Reader_readEither_5 : decode b_Reader_readEither 5 = .ok (.istore_n 1, 1) := by decide +kernel
theorem d_Reader_readEither_6 : decode b_Reader_readEither 6 = .ok (.iload_n 1, 1) := by decide +kernel
theorem d_Reader_readEither_7 : decode b_Reader_readEither 7 = .ok (.sipush 160, 3) := by decide +kernel
theorem d_Reader_readEither_10 : decode b_Reader_readEither 10 = .ok (.if_icmp .ge 32, 3) := by decide +kernel
theorem d_Reader_readEither_13 : decode b_Reader_readEither 13 = .ok (.aload_n 0, 1) := by decide +kernel
theorem d_Reader_readEither_14 : decode b_Reader_readEither 14 = .ok (.bipush 6, 2) := by decide +kernel
theorem d_Reader_readEither_16 : decode b_Reader_readEither 16 = .ok (.invokevirtual 62, 3) := by decide +kernel
theorem d_Reader_readEither_19 : decode b_Reader_readEither 19 = .ok (.ifCond .eq 23, 3) := by decide +kernel
theorem d_Reader_readEither_22 : decode b_Reader_readEither 22 = .ok (.aload_n 0, 1) := by decide +kernel
theorem d_Reader_readEither_23 : decode b_Reader_readEither 23 = .ok (.invokevirtual 35, 3) := by decide +kernel
theorem d_Reader_readEither_26 : decode b_Reader_readEither 26 = .ok (.aload_n 0, 1) := by decide +kernel
theorem d_Reader_readEither_27 : decode b_Reader_readEither 27 = .ok (.invokevirtual 59, 3) := by decide +kernel
theorem d_Reader_readEither_30 : decode b_Reader_readEither 30 = .ok (.aload_n 0, 1) := by decide +kernel
theorem d_Reader_readEither_31 : decode b_Reader_readEither 31 = .ok (.bipush (-15), 2) := by decide +kernel
theorem d_Reader_readEither_33 : decode b_Reader_readEither 33 = .ok (.invokevirtual 66, 3) := by decide +kernel
theorem d_Reader_readEither_36 : decode b_Reader_readEither 36 = .ok (.iinc 1 1, 3) := by decide +kernel
theorem d_Reader_readEither_39 : decode b_Reader_readEither 39 = .ok (.goto (-33), 3) := by decide +kernel
theorem d_Reader_readEither_42 : decode b_Reader_readEither 42 = .ok (.return_, 1) := by decide +kernel
theorem v_Reader_readEither : dk_Yv y_Reader_readEither b_Reader_readEither 2 (none) 0 := ⟨dk_in (List.mem_of_getElem? (i := 577) (by decide +kernel)) rfl, dk_in (List.mem_of_getElem? (i := 7) (by decide +kernel)) rfl, dk_in (List.mem_of_getElem? (i := 69) (by decide +kernel)) rfl, dk_in (List.mem_of_getElem? (i := 578) (by decide +kernel)) rfl, by decide +kernel, by decide +kernel, by decide +kernel⟩
theorem m_Reader_59 : Cond.methodLink R_Reader 59 y_Reader_readBoth ∈ dk_tb := dk_in (List.mem_of_getElem? (i := 579) (by decide +kernel)) rfl
theorem m_Reader_66 : Cond.methodLink R_Reader 66 y_Reader_put ∈ dk_tb := dk_in (List.mem_of_getElem? (i := 603) (by decide +kernel)) rfl
theorem d_Reader_readBoth_0 : decode b_Reader_readBoth 0 = .ok (.aload_n 0, 1) := by decide +kernel
theorem d_Reader_readBoth_1 : decode b_Reader_readBoth 1 = .ok (.invokevirtual 69, 3) := by decide +kernel
theorem d_Reader_readBoth_4 : decode b_Reader_readBoth 4 = .ok (.iconst 0, 1) := by decide +kernel
theorem d_Reader_readBoth_5 : decode b_Reader_readBoth 5 = .ok (.istore_n 1, 1) := by decide +kernel
theorem d_Reader_readBoth_6 : decode b_Reader_readBoth 6 = .ok (.iload_n 1, 1) := by decide +kernel
theorem d_Reader_readBoth_7 : decode b_Reader_readBoth 7 = .ok (.sipush 160, 3) := by decide +kernel
theorem d_Reader_readBoth_10 : decode b_Reader_readBoth 10 = .ok (.if_icmp .ge 32, 3) := by decide +kernel
theorem d_Reader_readBoth_13 : decode b_Reader_readBoth 13 = .ok (.aload_n 0, 1) := by decide +kernel
theorem d_Reader_readBoth_14 : decode b_Reader_readBoth 14 = .ok (.bipush 7, 2) := by decide +kernel
theorem d_Reader_readBoth_16 : decode b_Reader_readBoth 16 = .ok (.invokevirtual 62, 3) := by decide +kernel
theorem d_Reader_readBoth_19 : decode b_Reader_readBoth 19 = .ok (.ifCond .eq 23, 3) := by decide +kernel
theorem d_Reader_readBoth_22 : decode b_Reader_readBoth 22 = .ok (.aload_n 0, 1) := by decide +kernel
theorem d_Reader_readBoth_23 : decode b_Reader_readBoth 23 = .ok (.invokevirtual 35, 3) := by decide +kernel
theorem d_Reader_readBoth_26 : decode b_Reader_readBoth 26 = .ok (.aload_n 0, 1) := by decide +kernel
theorem d_Reader_readBoth_27 : decode b_Reader_readBoth 27 = .ok (.invokevirtual 69, 3) := by decide +kernel
theorem d_Reader_readBoth_30 : decode b_Reader_readBoth 30 = .ok (.aload_n 0, 1) := by decide +kernel
theorem d_Reader_readBoth_31 : decode b_Reader_readBoth 31 = .ok (.bipush (-14), 2) := by decide +kernel
theorem d_Reader_readBoth_33 : decode b_Reader_readBoth 33 = .ok (.invokevirtual 66, 3) := by decide +kernel
theorem d_Reader_readBoth_36 : decode b_Reader_readBoth 36 = .ok (.iinc 1 1, 3) := by decide +kernel
theorem d_Reader_readBoth_39 : decode b_Reader_readBoth 39 = .ok (.goto (-33), 3) := by decide +kernel
theorem d_Reader_readBoth_42 : decode b_Reader_readBoth 42 = .ok (.return_, 1) := by decide +kernel
theorem v_Reader_readBoth : dk_Yv y_Reader_readBoth b_Reader_readBoth 2 (none) 0 := ⟨dk_in (List.mem_of_getElem? (i := 581) (by decide +kernel)) rfl, dk_in (List.mem_of_getElem? (i := 8) (by decide +kernel)) rfl, dk_in (List.mem_of_getElem? (i := 69) (by decide +kernel)) rfl, dk_in (List.mem_of_getElem? (i := 582) (by decide +kernel)) rfl, by decide +kernel, by decide +kernel, by decide +kernel⟩
theorem m_Reader_69 : Cond.methodLink R_Reader 69 y_Reader_readNot ∈ dk_tb := dk_in (List.mem_of_getElem? (i := 583) (by decide +kernel)) rfl
theorem d_Reader_readNot_0 : decode b_Reader_readNot 0 = .ok (.aload_n 0, 1) := by decide +kernel
theorem d_Reader_readNot_1 : decode b_Reader_readNot 1 = .ok (.bipush 8, 2) := by decide +kernel
theorem d_Reader_readNot_3 : decode b_Reader_readNot 3 = .ok (.invokevirtual 62, 3) := by decide +kernel
theorem d_Reader_readNot_6 : decode b_Reader_readNot 6 = .ok (.ifCond .ne 10, 3) := by decide +kernel
theorem d_Reader_readNot_9 : decode b_Reader_readNot 9 = .ok (.aload_n 0, 1) := by decide +kernel
theorem d_Reader_readNot_10 : decode b_Reader_readNot 10 = .ok (.invokevirtual 72, 3) := by decide +kernel
theorem d_Reader_readNot_13 : decode b_Reader_readNot 13 = .ok (.goto 30, 3) := by decide +kernel
theorem d_Reader_readNot_16 : decode b_Reader_readNot 16 = .ok (.aload_n 0, 1) := by decide +kernel
theorem d_Reader_readNot_17 : decode b_Reader_readNot 17 = .ok (.invokevirtual 75, 3) := by decide +kernel
theorem d_Reader_readNot_20 : decode b_Reader_readNot 20 = .ok (.ifCond .eq 23, 3) := by decide +kernel
theorem d_Reader_readNot_23 : decode b_Reader_readNot 23 = .ok (.aload_n 0, 1) := by decide +kernel
theorem d_Reader_readNot_24 : decode b_Reader_readNot 24 = .ok (.invokevirtual 69, 3) := by decide +kernel
theorem d_Reader_readNot_27 : decode b_Reader_readNot 27 = .ok (.aload_n 0, 1) := by decide +kernel
theorem d_Reader_readNot_28 : decode b_Reader_readNot 28 = .ok (.bipush (-8), 2) := by decide +kernel
theorem d_Reader_readNot_30 : decode b_Reader_readNot 30 = .ok (.invokevirtual 66, 3) := by decide +kernel
theorem d_Reader_readNot_33 : decode b_Reader_readNot 33 = .ok (.aload_n 0, 1) := by decide +kernel
theorem d_Reader_readNot_34 : decode b_Reader_readNot 34 = .ok (.dup, 1) := by decide +kernel
theorem d_Reader_readNot_35 : decode b_Reader_readNot 35 = .ok (.getfield 32, 3) := by decide +kernel
theorem d_Reader_readNot_38 : decode b_Reader_readNot 38 = .ok (.iconst 1, 1) := by decide +kernel
theorem d_Reader_readNot_39 : decode b_Reader_readNot 39 = .ok (.isub, 1) := by decide +kernel
theorem d_Reader_readNot_40 : decode b_Reader_readNot 40 = .ok (.putfield 32, 3) := by decide +kernel
theorem d_Reader_readNot_43 : decode b_Reader_readNot 43 = .ok (.return_, 1) := by decide +kernel
theorem v_Reader_readNot : dk_Yv y_Reader_readNot b_Reader_readNot 1 (none) 0 := ⟨dk_in (List.mem_of_getElem? (i := 585) (by decide +kernel)) rfl, dk_in (List.mem_of_getElem? (i := 9) (by decide +kernel)) rfl, dk_in (List.mem_of_getElem? (i := 69) (by decide +kernel)) rfl, dk_in (List.mem_of_getElem? (i := 586) (by decide +kernel)) rfl, by decide +kernel, by decide +kernel, by decide +kernel⟩
theorem m_Reader_72 : Cond.methodLink R_Reader 72 y_Reader_readCompared ∈ dk_tb := dk_in (List.mem_of_getElem? (i := 587) (by decide +kernel)) rfl
theorem m_Reader_75 : Cond.methodLink R_Reader 75 y_Reader_opens ∈ dk_tb := dk_in (List.mem_of_getElem? (i := 607) (by decide +kernel)) rfl
theorem d_Reader_readCompared_0 : decode b_Reader_readCompared 0 = .ok (.aload_n 0, 1) := by decide +kernel
theorem d_Reader_readCompared_1 : decode b_Reader_readCompared 1 = .ok (.invokevirtual 79, 3) := by decide +kernel
theorem d_Reader_readCompared_4 : decode b_Reader_readCompared 4 = .ok (.aload_n 0, 1) := by decide +kernel
theorem d_Reader_readCompared_5 : decode b_Reader_readCompared 5 = .ok (.bipush 60, 2) := by decide +kernel
theorem d_Reader_readCompared_7 : decode b_Reader_readCompared 7 = .ok (.invokevirtual 62, 3) := by decide +kernel
theorem d_Reader_readCompared_10 : decode b_Reader_readCompared 10 = .ok (.ifCond .ne 12, 3) := by decide +kernel
theorem d_Reader_readCompared_13 : decode b_Reader_readCompared 13 = .ok (.aload_n 0, 1) := by decide +kernel
theorem d_Reader_readCompared_14 : decode b_Reader_readCompared 14 = .ok (.bipush 61, 2) := by decide +kernel
theorem d_Reader_readCompared_16 : decode b_Reader_readCompared 16 = .ok (.invokevirtual 62, 3) := by decide +kernel
theorem d_Reader_readCompared_19 : decode b_Reader_readCompared 19 = .ok (.ifCond .eq 33, 3) := by decide +kernel
theorem d_Reader_readCompared_22 : decode b_Reader_readCompared 22 = .ok (.aload_n 0, 1) := by decide +kernel
theorem d_Reader_readCompared_23 : decode b_Reader_readCompared 23 = .ok (.getfield 82, 3) := by decide +kernel
theorem d_Reader_readCompared_26 : decode b_Reader_readCompared 26 = .ok (.bipush 60, 2) := by decide +kernel
theorem d_Reader_readCompared_28 : decode b_Reader_readCompared 28 = .ok (.if_icmp .ne 8, 3) := by decide +kernel
theorem d_Reader_readCompared_31 : decode b_Reader_readCompared 31 = .ok (.bipush (-12), 2) := by decide +kernel
theorem d_Reader_readCompared_33 : decode b_Reader_readCompared 33 = .ok (.goto 5, 3) := by decide +kernel
theorem d_Reader_readCompared_36 : decode b_Reader_readCompared 36 = .ok (.bipush (-13), 2) := by decide +kernel
theorem d_Reader_readCompared_38 : decode b_Reader_readCompared 38 = .ok (.istore_n 1, 1) := by decide +kernel
theorem d_Reader_readCompared_39 : decode b_Reader_readCompared 39 = .ok (.aload_n 0, 1) := by decide +kernel
theorem d_Reader_readCompared_40 : decode b_Reader_readCompared 40 = .ok (.invokevirtual 35, 3) := by decide +kernel
theorem d_Reader_readCompared_43 : decode b_Reader_readCompared 43 = .ok (.aload_n 0, 1) := by decide +kernel
theorem d_Reader_readCompared_44 : decode b_Reader_readCompared 44 = .ok (.invokevirtual 79, 3) := by decide +kernel
theorem d_Reader_readCompared_47 : decode b_Reader_readCompared 47 = .ok (.aload_n 0, 1) := by decide +kernel
theorem d_Reader_readCompared_48 : decode b_Reader_readCompared 48 = .ok (.iload_n 1, 1) := by decide +kernel
theorem d_Reader_readCompared_49 : decode b_Reader_readCompared 49 = .ok (.invokevirtual 66, 3) := by decide +kernel
theorem d_Reader_readCompared_52 : decode b_Reader_readCompared 52 = .ok (.return_, 1) := by decide +kernel
theorem v_Reader_readCompared : dk_Yv y_Reader_readCompared b_Reader_readCompared 2 (none) 0 := ⟨dk_in (List.mem_of_getElem? (i := 589) (by decide +kernel)) rfl, dk_in (List.mem_of_getElem? (i := 10) (by decide +kernel)) rfl, dk_in (List.mem_of_getElem? (i := 69) (by decide +kernel)) rfl, dk_in (List.mem_of_getElem? (i := 590) (by decide +kernel)) rfl, by decide +kernel, by decide +kernel, by decide +kernel⟩
theorem m_Reader_79 : Cond.methodLink R_Reader 79 y_Reader_readSum ∈ dk_tb := dk_in (List.mem_of_getElem? (i := 591) (by decide +kernel)) rfl
theorem d_Reader_readSum_0 : decode b_Reader_readSum 0 = .ok (.aload_n 0, 1) := by decide +kernel
theorem d_Reader_readSum_1 : decode b_Reader_readSum 1 = .ok (.invokevirtual 85, 3) := by decide +kernel
theorem d_Reader_readSum_4 : decode b_Reader_readSum 4 = .ok (.iconst 0, 1) := by decide +kernel
theorem d_Reader_readSum_5 : decode b_Reader_readSum 5 = .ok (.istore_n 1, 1) := by decide +kernel
theorem d_Reader_readSum_6 : decode b_Reader_readSum 6 = .ok (.iload_n 1, 1) := by decide +kernel
theorem d_Reader_readSum_7 : decode b_Reader_readSum 7 = .ok (.sipush 160, 3) := by decide +kernel
theorem d_Reader_readSum_10 : decode b_Reader_readSum 10 = .ok (.if_icmp .ge 57, 3) := by decide +kernel
theorem d_Reader_readSum_13 : decode b_Reader_readSum 13 = .ok (.aload_n 0, 1) := by decide +kernel
theorem d_Reader_readSum_14 : decode b_Reader_readSum 14 = .ok (.bipush 43, 2) := by decide +kernel
theorem d_Reader_readSum_16 : decode b_Reader_readSum 16 = .ok (.invokevirtual 62, 3) := by decide +kernel
theorem d_Reader_readSum_19 : decode b_Reader_readSum 19 = .ok (.ifCond .ne 12, 3) := by decide +kernel
theorem d_Reader_readSum_22 : decode b_Reader_readSum 22 = .ok (.aload_n 0, 1) := by decide +kernel
theorem d_Reader_readSum_23 : decode b_Reader_readSum 23 = .ok (.bipush 45, 2) := by decide +kernel
theorem d_Reader_readSum_25 : decode b_Reader_readSum 25 = .ok (.invokevirtual 62, 3) := by decide +kernel
theorem d_Reader_readSum_28 : decode b_Reader_readSum 28 = .ok (.ifCond .eq 39, 3) := by decide +kernel
theorem d_Reader_readSum_31 : decode b_Reader_readSum 31 = .ok (.aload_n 0, 1) := by decide +kernel
theorem d_Reader_readSum_32 : decode b_Reader_readSum 32 = .ok (.getfield 82, 3) := by decide +kernel
theorem d_Reader_readSum_35 : decode b_Reader_readSum 35 = .ok (.bipush 43, 2) := by decide +kernel
theorem d_Reader_readSum_37 : decode b_Reader_readSum 37 = .ok (.if_icmp .ne 8, 3) := by decide +kernel
theorem d_Reader_readSum_40 : decode b_Reader_readSum 40 = .ok (.bipush (-10), 2) := by decide +kernel
theorem d_Reader_readSum_42 : decode b_Reader_readSum 42 = .ok (.goto 5, 3) := by decide +kernel
theorem d_Reader_readSum_45 : decode b_Reader_readSum 45 = .ok (.bipush (-11), 2) := by decide +kernel
theorem d_Reader_readSum_47 : decode b_Reader_readSum 47 = .ok (.istore_n 2, 1) := by decide +kernel
theorem d_Reader_readSum_48 : decode b_Reader_readSum 48 = .ok (.aload_n 0, 1) := by decide +kernel
theorem d_Reader_readSum_49 : decode b_Reader_readSum 49 = .ok (.invokevirtual 35, 3) := by decide +kernel
theorem d_Reader_readSum_52 : decode b_Reader_readSum 52 = .ok (.aload_n 0, 1) := by decide +kernel
theorem d_Reader_readSum_53 : decode b_Reader_readSum 53 = .ok (.invokevirtual 85, 3) := by decide +kernel
theorem d_Reader_readSum_56 : decode b_Reader_readSum 56 = .ok (.aload_n 0, 1) := by decide +kernel
theorem d_Reader_readSum_57 : decode b_Reader_readSum 57 = .ok (.iload_n 2, 1) := by decide +kernel
theorem d_Reader_readSum_58 : decode b_Reader_readSum 58 = .ok (.invokevirtual 66, 3) := by decide +kernel
theorem d_Reader_readSum_61 : decode b_Reader_readSum 61 = .ok (.iinc 1 1, 3) := by decide +kernel
theorem d_Reader_readSum_64 : decode b_Reader_readSum 64 = .ok (.goto (-58), 3) := by decide +kernel
theorem d_Reader_readSum_67 : decode b_Reader_readSum 67 = .ok (.return_, 1) := by decide +kernel
theorem v_Reader_readSum : dk_Yv y_Reader_readSum b_Reader_readSum 3 (none) 0 := ⟨dk_in (List.mem_of_getElem? (i := 593) (by decide +kernel)) rfl, dk_in (List.mem_of_getElem? (i := 11) (by decide +kernel)) rfl, dk_in (List.mem_of_getElem? (i := 69) (by decide +kernel)) rfl, dk_in (List.mem_of_getElem? (i := 594) (by decide +kernel)) rfl, by decide +kernel, by decide +kernel, by decide +kernel⟩
theorem m_Reader_85 : Cond.methodLink R_Reader 85 y_Reader_readTerm ∈ dk_tb := dk_in (List.mem_of_getElem? (i := 595) (by decide +kernel)) rfl
theorem d_Reader_readTerm_0 : decode b_Reader_readTerm 0 = .ok (.aload_n 0, 1) := by decide +kernel
theorem d_Reader_readTerm_1 : decode b_Reader_readTerm 1 = .ok (.invokevirtual 88, 3) := by decide +kernel
theorem d_Reader_readTerm_4 : decode b_Reader_readTerm 4 = .ok (.iconst 0, 1) := by decide +kernel
theorem d_Reader_readTerm_5 : decode b_Reader_readTerm 5 = .ok (.istore_n 1, 1) := by decide +kernel
theorem d_Reader_readTerm_6 : decode b_Reader_readTerm 6 = .ok (.iload_n 1, 1) := by decide +kernel
theorem d_Reader_readTerm_7 : decode b_Reader_readTerm 7 = .ok (.sipush 160, 3) := by decide +kernel
theorem d_Reader_readTerm_10 : decode b_Reader_readTerm 10 = .ok (.if_icmp .ge 32, 3) := by decide +kernel
theorem d_Reader_readTerm_13 : decode b_Reader_readTerm 13 = .ok (.aload_n 0, 1) := by decide +kernel
theorem d_Reader_readTerm_14 : decode b_Reader_readTerm 14 = .ok (.bipush 42, 2) := by decide +kernel
theorem d_Reader_readTerm_16 : decode b_Reader_readTerm 16 = .ok (.invokevirtual 62, 3) := by decide +kernel
theorem d_Reader_readTerm_19 : decode b_Reader_readTerm 19 = .ok (.ifCond .eq 23, 3) := by decide +kernel
theorem d_Reader_readTerm_22 : decode b_Reader_readTerm 22 = .ok (.aload_n 0, 1) := by decide +kernel
theorem d_Reader_readTerm_23 : decode b_Reader_readTerm 23 = .ok (.invokevirtual 35, 3) := by decide +kernel
theorem d_Reader_readTerm_26 : decode b_Reader_readTerm 26 = .ok (.aload_n 0, 1) := by decide +kernel
theorem d_Reader_readTerm_27 : decode b_Reader_readTerm 27 = .ok (.invokevirtual 88, 3) := by decide +kernel
theorem d_Reader_readTerm_30 : decode b_Reader_readTerm 30 = .ok (.aload_n 0, 1) := by decide +kernel
theorem d_Reader_readTerm_31 : decode b_Reader_readTerm 31 = .ok (.bipush (-9), 2) := by decide +kernel
theorem d_Reader_readTerm_33 : decode b_Reader_readTerm 33 = .ok (.invokevirtual 66, 3) := by decide +kernel
theorem d_Reader_readTerm_36 : decode b_Reader_readTerm 36 = .ok (.iinc 1 1, 3) := by decide +kernel
theorem d_Reader_readTerm_39 : decode b_Reader_readTerm 39 = .ok (.goto (-33), 3) := by decide +kernel
theorem d_Reader_readTerm_42 : decode b_Reader_readTerm 42 = .ok (.return_, 1) := by decide +kernel
theorem v_Reader_readTerm : dk_Yv y_Reader_readTerm b_Reader_readTerm 2 (none) 0 := ⟨dk_in (List.mem_of_getElem? (i := 597) (by decide +kernel)) rfl, dk_in (List.mem_of_getElem? (i := 12) (by decide +kernel)) rfl, dk_in (List.mem_of_getElem? (i := 69) (by decide +kernel)) rfl, dk_in (List.mem_of_getElem? (i := 598) (by decide +kernel)) rfl, by decide +kernel, by decide +kernel, by decide +kernel⟩
theorem m_Reader_88 : Cond.methodLink R_Reader 88 y_Reader_readOne ∈ dk_tb := dk_in (List.mem_of_getElem? (i := 599) (by decide +kernel)) rfl
theorem d_Reader_readOne_0 : decode b_Reader_readOne 0 = .ok (.aload_n 0, 1) := by decide +kernel
theorem d_Reader_readOne_1 : decode b_Reader_readOne 1 = .ok (.iconst 2, 1) := by decide +kernel
theorem d_Reader_readOne_2 : decode b_Reader_readOne 2 = .ok (.invokevirtual 62, 3) := by decide +kernel
theorem d_Reader_readOne_5 : decode b_Reader_readOne 5 = .ok (.ifCond .ne 11, 3) := by decide +kernel
theorem d_Reader_readOne_8 : decode b_Reader_readOne 8 = .ok (.aload_n 0, 1) := by decide +kernel
theorem d_Reader_readOne_9 : decode b_Reader_readOne 9 = .ok (.iconst 3, 1) := by decide +kernel
theorem d_Reader_readOne_10 : decode b_Reader_readOne 10 = .ok (.invokevirtual 62, 3) := by decide +kernel
theorem d_Reader_readOne_13 : decode b_Reader_readOne 13 = .ok (.ifCond .eq 18, 3) := by decide +kernel
theorem d_Reader_readOne_16 : decode b_Reader_readOne 16 = .ok (.aload_n 0, 1) := by decide +kernel
theorem d_Reader_readOne_17 : decode b_Reader_readOne 17 = .ok (.aload_n 0, 1) := by decide +kernel
theorem d_Reader_readOne_18 : decode b_Reader_readOne 18 = .ok (.getfield 91, 3) := by decide +kernel
theorem d_Reader_readOne_21 : decode b_Reader_readOne 21 = .ok (.invokevirtual 66, 3) := by decide +kernel
theorem d_Reader_readOne_24 : decode b_Reader_readOne 24 = .ok (.aload_n 0, 1) := by decide +kernel
theorem d_Reader_readOne_25 : decode b_Reader_readOne 25 = .ok (.invokevirtual 35, 3) := by decide +kernel
theorem d_Reader_readOne_28 : decode b_Reader_readOne 28 = .ok (.goto 85, 3) := by decide +kernel
theorem d_Reader_readOne_31 : decode b_Reader_readOne 31 = .ok (.aload_n 0, 1) := by decide +kernel
theorem d_Reader_readOne_32 : decode b_Reader_readOne 32 = .ok (.bipush 45, 2) := by decide +kernel
theorem d_Reader_readOne_34 : decode b_Reader_readOne 34 = .ok (.invokevirtual 62, 3) := by decide +kernel
theorem d_Reader_readOne_37 : decode b_Reader_readOne 37 = .ok (.ifCond .eq 33, 3) := by decide +kernel
theorem d_Reader_readOne_40 : decode b_Reader_readOne 40 = .ok (.aload_n 0, 1) := by decide +kernel
theorem d_Reader_readOne_41 : decode b_Reader_readOne 41 = .ok (.invokevirtual 75, 3) := by decide +kernel
theorem d_Reader_readOne_44 : decode b_Reader_readOne 44 = .ok (.ifCond .eq 69, 3) := by decide +kernel
theorem d_Reader_readOne_47 : decode b_Reader_readOne 47 = .ok (.aload_n 0, 1) := by decide +kernel
theorem d_Reader_readOne_48 : decode b_Reader_readOne 48 = .ok (.invokevirtual 88, 3) := by decide +kernel
theorem d_Reader_readOne_51 : decode b_Reader_readOne 51 = .ok (.aload_n 0, 1) := by decide +kernel
theorem d_Reader_readOne_52 : decode b_Reader_readOne 52 = .ok (.bipush (-7), 2) := by decide +kernel
theorem d_Reader_readOne_54 : decode b_Reader_readOne 54 = .ok (.invokevirtual 66, 3) := by decide +kernel
theorem d_Reader_readOne_57 : decode b_Reader_readOne 57 = .ok (.aload_n 0, 1) := by decide +kernel
theorem d_Reader_readOne_58 : decode b_Reader_readOne 58 = .ok (.dup, 1) := by decide +kernel
theorem d_Reader_readOne_59 : decode b_Reader_readOne 59 = .ok (.getfield 32, 3) := by decide +kernel
theorem d_Reader_readOne_62 : decode b_Reader_readOne 62 = .ok (.iconst 1, 1) := by decide +kernel
theorem d_Reader_readOne_63 : decode b_Reader_readOne 63 = .ok (.isub, 1) := by decide +kernel
theorem d_Reader_readOne_64 : decode b_Reader_readOne 64 = .ok (.putfield 32, 3) := by decide +kernel
theorem d_Reader_readOne_67 : decode b_Reader_readOne 67 = .ok (.goto 46, 3) := by decide +kernel
theorem d_Reader_readOne_70 : decode b_Reader_readOne 70 = .ok (.aload_n 0, 1) := by decide +kernel
theorem d_Reader_readOne_71 : decode b_Reader_readOne 71 = .ok (.bipush 40, 2) := by decide +kernel
theorem d_Reader_readOne_73 : decode b_Reader_readOne 73 = .ok (.invokevirtual 62, 3) := by decide +kernel
theorem d_Reader_readOne_76 : decode b_Reader_readOne 76 = .ok (.ifCond .eq 33, 3) := by decide +kernel
theorem d_Reader_readOne_79 : decode b_Reader_readOne 79 = .ok (.aload_n 0, 1) := by decide +kernel
theorem d_Reader_readOne_80 : decode b_Reader_readOne 80 = .ok (.invokevirtual 75, 3) := by decide +kernel
theorem d_Reader_readOne_83 : decode b_Reader_readOne 83 = .ok (.ifCond .eq 30, 3) := by decide +kernel
theorem d_Reader_readOne_86 : decode b_Reader_readOne 86 = .ok (.aload_n 0, 1) := by decide +kernel
theorem d_Reader_readOne_87 : decode b_Reader_readOne 87 = .ok (.invokevirtual 42, 3) := by decide +kernel
theorem d_Reader_readOne_90 : decode b_Reader_readOne 90 = .ok (.aload_n 0, 1) := by decide +kernel
theorem d_Reader_readOne_91 : decode b_Reader_readOne 91 = .ok (.bipush 41, 2) := by decide +kernel
theorem d_Reader_readOne_93 : decode b_Reader_readOne 93 = .ok (.invokevirtual 38, 3) := by decide +kernel
theorem d_Reader_readOne_96 : decode b_Reader_readOne 96 = .ok (.aload_n 0, 1) := by decide +kernel
theorem d_Reader_readOne_97 : decode b_Reader_readOne 97 = .ok (.dup, 1) := by decide +kernel
theorem d_Reader_readOne_98 : decode b_Reader_readOne 98 = .ok (.getfield 32, 3) := by decide +kernel
theorem d_Reader_readOne_101 : decode b_Reader_readOne 101 = .ok (.iconst 1, 1) := by decide +kernel
theorem d_Reader_readOne_102 : decode b_Reader_readOne 102 = .ok (.isub, 1) := by decide +kernel
theorem d_Reader_readOne_103 : decode b_Reader_readOne 103 = .ok (.putfield 32, 3) := by decide +kernel
theorem d_Reader_readOne_106 : decode b_Reader_readOne 106 = .ok (.goto 7, 3) := by decide +kernel
theorem d_Reader_readOne_109 : decode b_Reader_readOne 109 = .ok (.aload_n 0, 1) := by decide +kernel
theorem d_Reader_readOne_110 : decode b_Reader_readOne 110 = .ok (.invokevirtual 94, 3) := by decide +kernel
theorem d_Reader_readOne_113 : decode b_Reader_readOne 113 = .ok (.return_, 1) := by decide +kernel
theorem v_Reader_readOne : dk_Yv y_Reader_readOne b_Reader_readOne 1 (none) 0 := ⟨dk_in (List.mem_of_getElem? (i := 601) (by decide +kernel)) rfl, dk_in (List.mem_of_getElem? (i := 13) (by decide +kernel)) rfl, dk_in (List.mem_of_getElem? (i := 69) (by decide +kernel)) rfl, dk_in (List.mem_of_getElem? (i := 602) (by decide +kernel)) rfl, by decide +kernel, by decide +kernel, by decide +kernel⟩
theorem m_Reader_38 : Cond.methodLink R_Reader 38 y_Reader_expect ∈ dk_tb := dk_in (List.mem_of_getElem? (i := 563) (by decide +kernel)) rfl
theorem m_Reader_42 : Cond.methodLink R_Reader 42 y_Reader_readEither ∈ dk_tb := dk_in (List.mem_of_getElem? (i := 575) (by decide +kernel)) rfl
abbrev rm_rec (d : Nat) : Room := { frames := d + 16, cells := 0, slots := 0, locals := 40 * d + 400 }
def dk_GH (l : Launch) (g : dk_G) (ad : Nat → Nat) (T d : Nat) (G : Nat → dk_S → Option dk_S) : Prop := (∀ S : dk_S, dk_Mv l g y_Reader_readEither b_Reader_readEither 2 (rm_rec d) none [.ref (ad 12)] (wC g ad T) S (G 0 S)) ∧ (∀ S : dk_S, dk_Mv l g y_Reader_readBoth b_Reader_readBoth 2 (rm_rec d) none [.ref (ad 12)] (wC g ad T) S (G 1 S)) ∧ (∀ S : dk_S, dk_Mv l g y_Reader_readNot b_Reader_readNot 1 (rm_rec d) none [.ref (ad 12)] (wC g ad T) S (G 2 S)) ∧ (∀ S : dk_S, dk_Mv l g y_Reader_readCompared b_Reader_readCompared 2 (rm_rec d) none [.ref (ad 12)] (wC g ad T) S (G 3 S)) ∧ (∀ S : dk_S, dk_Mv l g y_Reader_readSum b_Reader_readSum 3 (rm_rec d) none [.ref (ad 12)] (wC g ad T) S (G 4 S)) ∧ (∀ S : dk_S, dk_Mv l g y_Reader_readTerm b_Reader_readTerm 2 (rm_rec d) none [.ref (ad 12)] (wC g ad T) S (G 5 S)) ∧ (∀ S : dk_S, dk_Mv l g y_Reader_readOne b_Reader_readOne 1 (rm_rec d) none [.ref (ad 12)] (wC g ad T) S (G 6 S))
def B_Reader_readEither_6b (n T : Nat) (G : Nat → dk_S → Option dk_S) (k6 : Int32 → dk_S → Option dk_S) (x1 : Int32) (S : dk_S) : Option dk_S :=
  if (160 : Int32) ≤ x1 then (some S) else (dk_c (F_Reader_sees n T (6 : Int32) S) fun r2 S1 => if r2 = 0 then (some S1) else (dk_cv (F_Reader_scan n T S1) fun S3 => dk_cv (G 1 S3) fun S5 => dk_cv (F_Reader_put n T (-15 : Int32) S5) fun S7 => k6 (x1 + (1 : Int32)) S7))
set_option maxRecDepth 20000 in
theorem kb_Reader_readEither_6b {p : Program} {l : Launch} {e : Env} {s : State} {m : MethodId} {args : Array Value} {below : List Frame} {meth : Method} {c : Code} {g : dk_G} {A : Nat → Prop} {Q : State → Prop} {ad : Nat → Nat} {T : Nat} {n : Nat} {res : dk_S} {d : Nat} {G : Nat → dk_S → Option dk_S} (hG : dk_GH l g ad T d G) (X : dk_X p s m args meth c b_Reader_readEither 2 R_Reader (none) g A) (hR : dk_Rv p l e (rm_rec (d + 1)) s m args below meth c g A Q 2 b_Reader_readEither (none) (wC g ad T) res) {k6 : Int32 → dk_S → Option dk_S} (hk6 : ∀ (x1 : Int32)  (S : dk_S), k6 x1 S = some res → dk_J p l e (rm_rec (d + 1)) s m args below meth c g A Q 2 0 0 6 [(0, .ref (ad 12)), (1, .int x1)] [] (wC g ad T S)) {x1 : Int32} {S : dk_S}  (hF : B_Reader_readEither_6b n T G k6 x1 S = some res) : dk_J p l e (rm_rec (d + 1)) s m args below meth c g A Q 2 0 0 6 [(0, .ref (ad 12)), (1, .int x1)] [] (wC g ad T S) := by
  unfold B_Reader_readEither_6b at hF
  refine dk_iload_n (k := 1) (i := 1) X 1 rfl rfl d_Reader_readEither_6 ?_
  refine dk_sipush (v := 160) X (by decide) d_Reader_readEither_7 ?_
  refine dk_icmp_ge (tgt := 42) X (by decide) d_Reader_readEither_10 hF (fun hF => ?_) (fun hF => ?_)
  · exact dk_retv hR hF d_Reader_readEither_42
  · refine dk_aload_n (k := 0) (i := 0) X 0 rfl rfl d_Reader_readEither_13 ?_
    refine dk_bipush (v := 6) X (by decide) d_Reader_readEither_14 ?_
    refine dk_callVi X v_Reader_sees [.int (6 : Int32)] (c_Reader_sees l g ad T n (6 : Int32) S) 12 (oC_Reader g ad T S) rfl rfl m_Reader_62 rfl rfl ⟨rfl, rfl, by show 0 + 1 ≤ d + 1 + 16; omega, by show 8 + (2 + 11) + 0 ≤ 40 * (d + 1) + 400; omega, Nat.le_refl _, Nat.le_refl _⟩ (Nat.le_of_ble_eq_true rfl) d_Reader_readEither_16 hF (fun r2 S1 hF => ?_)
    refine dk_if_eq (tgt := 42) X (by decide) d_Reader_readEither_19 hF (fun hF => ?_) (fun hF => ?_)
    · exact dk_retv hR hF d_Reader_readEither_42
    · refine dk_aload_n (k := 0) (i := 0) X 0 rfl rfl d_Reader_readEither_22 ?_
      refine dk_callVv X v_Reader_scan [] (c_Reader_scan l g ad T n S1) 12 (oC_Reader g ad T S1) rfl rfl m_Reader_35 rfl rfl ⟨rfl, rfl, by show 6 + 1 ≤ d + 1 + 16; omega, by show 8 + (2 + 11) + 132 ≤ 40 * (d + 1) + 400; omega, Nat.le_refl _, Nat.le_refl _⟩ (Nat.le_of_ble_eq_true rfl) d_Reader_readEither_23 hF (fun S3 hF => ?_)
      refine dk_aload_n (k := 0) (i := 0) X 0 rfl rfl d_Reader_readEither_26 ?_
      refine dk_callVv X v_Reader_readBoth [] (hG.2.1 S3) 12 (oC_Reader g ad T S3) rfl rfl m_Reader_59 rfl rfl ⟨rfl, rfl, by show d + 16 + 1 ≤ d + 1 + 16; omega, by show 8 + (2 + 11) + (40 * d + 400) ≤ 40 * (d + 1) + 400; omega, Nat.le_refl _, Nat.le_refl _⟩ (Nat.le_of_ble_eq_true rfl) d_Reader_readEither_27 hF (fun S5 hF => ?_)
      refine dk_aload_n (k := 0) (i := 0) X 0 rfl rfl d_Reader_readEither_30 ?_
      refine dk_bipush (v := -15) X (by decide) d_Reader_readEither_31 ?_
      refine dk_callVv X v_Reader_put [.int (-15 : Int32)] (c_Reader_put l g ad T n (-15 : Int32) S5) 12 (oC_Reader g ad T S5) rfl rfl m_Reader_66 rfl rfl ⟨rfl, rfl, by show 0 + 1 ≤ d + 1 + 16; omega, by show 8 + (2 + 11) + 0 ≤ 40 * (d + 1) + 400; omega, Nat.le_refl _, Nat.le_refl _⟩ (Nat.le_of_ble_eq_true rfl) d_Reader_readEither_33 hF (fun S7 hF => ?_)
      refine dk_iinc (i := 1) (v := (x1 + (1 : Int32))) (lv' := [(1, .int (x1 + (1 : Int32))), (0, .ref (ad 12))]) X 1 rfl (dk_ii _ (by decide)) (by decide) rfl d_Reader_readEither_36 ?_
      refine dk_goto (tgt := 6) X (by decide) d_Reader_readEither_39 ?_
      exact dk_sub [1, 0] rfl (hk6 (x1 + (1 : Int32)) S7 hF)
def B_Reader_readEither_6 (n T : Nat) (G : Nat → dk_S → Option dk_S)  : Nat → Int32 → dk_S → Option dk_S
  | 0 => fun _ _ => none
  | q + 1 => fun x1 S => B_Reader_readEither_6b n T G (fun x1 S => B_Reader_readEither_6 n T G  q x1 S) x1 S
theorem kb_Reader_readEither_6 {p : Program} {l : Launch} {e : Env} {s : State} {m : MethodId} {args : Array Value} {below : List Frame} {meth : Method} {c : Code} {g : dk_G} {A : Nat → Prop} {Q : State → Prop} {ad : Nat → Nat} {T : Nat} {n : Nat} {res : dk_S} {d : Nat} {G : Nat → dk_S → Option dk_S} (hG : dk_GH l g ad T d G) (X : dk_X p s m args meth c b_Reader_readEither 2 R_Reader (none) g A) (hR : dk_Rv p l e (rm_rec (d + 1)) s m args below meth c g A Q 2 b_Reader_readEither (none) (wC g ad T) res)  : ∀ (q : Nat) (x1 : Int32)  (S : dk_S), B_Reader_readEither_6 n T G  q x1 S = some res → dk_J p l e (rm_rec (d + 1)) s m args below meth c g A Q 2 0 0 6 [(0, .ref (ad 12)), (1, .int x1)] [] (wC g ad T S) := by
  intro q
  induction q with
  | zero => intro x1  S hF; cases hF
  | succ q ih => intro x1  S hF; exact kb_Reader_readEither_6b (n := n) hG X hR ih  hF
def B_Reader_readEither_0 (n T : Nat) (G : Nat → dk_S → Option dk_S)   (S : dk_S) : Option dk_S :=
  dk_cv (G 1 S) fun S9 => B_Reader_readEither_6 n T G  n (0 : Int32) S9
set_option maxRecDepth 20000 in
theorem kb_Reader_readEither_0 {p : Program} {l : Launch} {e : Env} {s : State} {m : MethodId} {args : Array Value} {below : List Frame} {meth : Method} {c : Code} {g : dk_G} {A : Nat → Prop} {Q : State → Prop} {ad : Nat → Nat} {T : Nat} {n : Nat} {res : dk_S} {d : Nat} {G : Nat → dk_S → Option dk_S} (hG : dk_GH l g ad T d G) (X : dk_X p s m args meth c b_Reader_readEither 2 R_Reader (none) g A) (hR : dk_Rv p l e (rm_rec (d + 1)) s m args below meth c g A Q 2 b_Reader_readEither (none) (wC g ad T) res)   {S : dk_S}  (hF : B_Reader_readEither_0 n T G   S = some res) : dk_J p l e (rm_rec (d + 1)) s m args below meth c g A Q 2 0 0 0 [(0, .ref (ad 12))] [] (wC g ad T S) := by
  unfold B_Reader_readEither_0 at hF
  refine dk_aload_n (k := 0) (i := 0) X 0 rfl rfl d_Reader_readEither_0 ?_
  refine dk_callVv X v_Reader_readBoth [] (hG.2.1 S) 12 (oC_Reader g ad T S) rfl rfl m_Reader_59 rfl rfl ⟨rfl, rfl, by show d + 16 + 1 ≤ d + 1 + 16; omega, by show 8 + (2 + 11) + (40 * d + 400) ≤ 40 * (d + 1) + 400; omega, Nat.le_refl _, Nat.le_refl _⟩ (Nat.le_of_ble_eq_true rfl) d_Reader_readEither_1 hF (fun S9 hF => ?_)
  refine dk_iconst (v := 0) X (by decide) d_Reader_readEither_4 ?_
  refine dk_istore_n (k := 1) (i := 1) (lv' := [(1, .int (0 : Int32)), (0, .ref (ad 12))]) X rfl (by decide) rfl d_Reader_readEither_5 ?_
  exact dk_sub [1, 0] rfl (kb_Reader_readEither_6 (n := n) hG X hR  n (0 : Int32) S9 hF)
def H_Reader_readEither (n T : Nat) (G : Nat → dk_S → Option dk_S) (S : dk_S) : Option dk_S := B_Reader_readEither_0 n T G S
theorem cg_Reader_readEither (l : Launch) (g : dk_G) (ad : Nat → Nat) (T n d : Nat) (G : Nat → dk_S → Option dk_S) (hG : dk_GH l g ad T d G) (S : dk_S) : dk_Mv l g y_Reader_readEither b_Reader_readEither 2 (rm_rec (d + 1)) none [.ref (ad 12)] (wC g ad T) S (H_Reader_readEither n T G S) := dk_enterv (by decide) rfl (Nat.le_of_ble_eq_true rfl) (fun p e s m args below meth c A Q res hF X hR => kb_Reader_readEither_0 (n := n) hG X hR hF)
def B_Reader_readBoth_6b (n T : Nat) (G : Nat → dk_S → Option dk_S) (k6 : Int32 → dk_S → Option dk_S) (x1 : Int32) (S : dk_S) : Option dk_S :=
  if (160 : Int32) ≤ x1 then (some S) else (dk_c (F_Reader_sees n T (7 : Int32) S) fun r2 S1 => if r2 = 0 then (some S1) else (dk_cv (F_Reader_scan n T S1) fun S3 => dk_cv (G 2 S3) fun S5 => dk_cv (F_Reader_put n T (-14 : Int32) S5) fun S7 => k6 (x1 + (1 : Int32)) S7))
set_option maxRecDepth 20000 in
theorem kb_Reader_readBoth_6b {p : Program} {l : Launch} {e : Env} {s : State} {m : MethodId} {args : Array Value} {below : List Frame} {meth : Method} {c : Code} {g : dk_G} {A : Nat → Prop} {Q : State → Prop} {ad : Nat → Nat} {T : Nat} {n : Nat} {res : dk_S} {d : Nat} {G : Nat → dk_S → Option dk_S} (hG : dk_GH l g ad T d G) (X : dk_X p s m args meth c b_Reader_readBoth 2 R_Reader (none) g A) (hR : dk_Rv p l e (rm_rec (d + 1)) s m args below meth c g A Q 2 b_Reader_readBoth (none) (wC g ad T) res) {k6 : Int32 → dk_S → Option dk_S} (hk6 : ∀ (x1 : Int32)  (S : dk_S), k6 x1 S = some res → dk_J p l e (rm_rec (d + 1)) s m args below meth c g A Q 2 0 0 6 [(0, .ref (ad 12)), (1, .int x1)] [] (wC g ad T S)) {x1 : Int32} {S : dk_S}  (hF : B_Reader_readBoth_6b n T G k6 x1 S = some res) : dk_J p l e (rm_rec (d + 1)) s m args below meth c g A Q 2 0 0 6 [(0, .ref (ad 12)), (1, .int x1)] [] (wC g ad T S) := by
  unfold B_Reader_readBoth_6b at hF
  refine dk_iload_n (k := 1) (i := 1) X 1 rfl rfl d_Reader_readBoth_6 ?_
  refine dk_sipush (v := 160) X (by decide) d_Reader_readBoth_7 ?_
  refine dk_icmp_ge (tgt := 42) X (by decide) d_Reader_readBoth_10 hF (fun hF => ?_) (fun hF => ?_)
  · exact dk_retv hR hF d_Reader_readBoth_42
  · refine dk_aload_n (k := 0) (i := 0) X 0 rfl rfl d_Reader_readBoth_13 ?_
    refine dk_bipush (v := 7) X (by decide) d_Reader_readBoth_14 ?_
    refine dk_callVi X v_Reader_sees [.int (7 : Int32)] (c_Reader_sees l g ad T n (7 : Int32) S) 12 (oC_Reader g ad T S) rfl rfl m_Reader_62 rfl rfl ⟨rfl, rfl, by show 0 + 1 ≤ d + 1 + 16; omega, by show 8 + (2 + 11) + 0 ≤ 40 * (d + 1) + 400; omega, Nat.le_refl _, Nat.le_refl _⟩ (Nat.le_of_ble_eq_true rfl) d_Reader_readBoth_16 hF (fun r2 S1 hF => ?_)
    refine dk_if_eq (tgt := 42) X (by decide) d_Reader_readBoth_19 hF (fun hF => ?_) (fun hF => ?_)
    · exact dk_retv hR hF d_Reader_readBoth_42
    · refine dk_aload_n (k := 0) (i := 0) X 0 rfl rfl d_Reader_readBoth_22 ?_
      refine dk_callVv X v_Reader_scan [] (c_Reader_scan l g ad T n S1) 12 (oC_Reader g ad T S1) rfl rfl m_Reader_35 rfl rfl ⟨rfl, rfl, by show 6 + 1 ≤ d + 1 + 16; omega, by show 8 + (2 + 11) + 132 ≤ 40 * (d + 1) + 400; omega, Nat.le_refl _, Nat.le_refl _⟩ (Nat.le_of_ble_eq_true rfl) d_Reader_readBoth_23 hF (fun S3 hF => ?_)
      refine dk_aload_n (k := 0) (i := 0) X 0 rfl rfl d_Reader_readBoth_26 ?_
      refine dk_callVv X v_Reader_readNot [] (hG.2.2.1 S3) 12 (oC_Reader g ad T S3) rfl rfl m_Reader_69 rfl rfl ⟨rfl, rfl, by show d + 16 + 1 ≤ d + 1 + 16; omega, by show 8 + (1 + 11) + (40 * d + 400) ≤ 40 * (d + 1) + 400; omega, Nat.le_refl _, Nat.le_refl _⟩ (Nat.le_of_ble_eq_true rfl) d_Reader_readBoth_27 hF (fun S5 hF => ?_)
      refine dk_aload_n (k := 0) (i := 0) X 0 rfl rfl d_Reader_readBoth_30 ?_
      refine dk_bipush (v := -14) X (by decide) d_Reader_readBoth_31 ?_
      refine dk_callVv X v_Reader_put [.int (-14 : Int32)] (c_Reader_put l g ad T n (-14 : Int32) S5) 12 (oC_Reader g ad T S5) rfl rfl m_Reader_66 rfl rfl ⟨rfl, rfl, by show 0 + 1 ≤ d + 1 + 16; omega, by show 8 + (2 + 11) + 0 ≤ 40 * (d + 1) + 400; omega, Nat.le_refl _, Nat.le_refl _⟩ (Nat.le_of_ble_eq_true rfl) d_Reader_readBoth_33 hF (fun S7 hF => ?_)
      refine dk_iinc (i := 1) (v := (x1 + (1 : Int32))) (lv' := [(1, .int (x1 + (1 : Int32))), (0, .ref (ad 12))]) X 1 rfl (dk_ii _ (by decide)) (by decide) rfl d_Reader_readBoth_36 ?_
      refine dk_goto (tgt := 6) X (by decide) d_Reader_readBoth_39 ?_
      exact dk_sub [1, 0] rfl (hk6 (x1 + (1 : Int32)) S7 hF)
def B_Reader_readBoth_6 (n T : Nat) (G : Nat → dk_S → Option dk_S)  : Nat → Int32 → dk_S → Option dk_S
  | 0 => fun _ _ => none
  | q + 1 => fun x1 S => B_Reader_readBoth_6b n T G (fun x1 S => B_Reader_readBoth_6 n T G  q x1 S) x1 S
theorem kb_Reader_readBoth_6 {p : Program} {l : Launch} {e : Env} {s : State} {m : MethodId} {args : Array Value} {below : List Frame} {meth : Method} {c : Code} {g : dk_G} {A : Nat → Prop} {Q : State → Prop} {ad : Nat → Nat} {T : Nat} {n : Nat} {res : dk_S} {d : Nat} {G : Nat → dk_S → Option dk_S} (hG : dk_GH l g ad T d G) (X : dk_X p s m args meth c b_Reader_readBoth 2 R_Reader (none) g A) (hR : dk_Rv p l e (rm_rec (d + 1)) s m args below meth c g A Q 2 b_Reader_readBoth (none) (wC g ad T) res)  : ∀ (q : Nat) (x1 : Int32)  (S : dk_S), B_Reader_readBoth_6 n T G  q x1 S = some res → dk_J p l e (rm_rec (d + 1)) s m args below meth c g A Q 2 0 0 6 [(0, .ref (ad 12)), (1, .int x1)] [] (wC g ad T S) := by
  intro q
  induction q with
  | zero => intro x1  S hF; cases hF
  | succ q ih => intro x1  S hF; exact kb_Reader_readBoth_6b (n := n) hG X hR ih  hF
def B_Reader_readBoth_0 (n T : Nat) (G : Nat → dk_S → Option dk_S)   (S : dk_S) : Option dk_S :=
  dk_cv (G 2 S) fun S9 => B_Reader_readBoth_6 n T G  n (0 : Int32) S9
set_option maxRecDepth 20000 in
theorem kb_Reader_readBoth_0 {p : Program} {l : Launch} {e : Env} {s : State} {m : MethodId} {args : Array Value} {below : List Frame} {meth : Method} {c : Code} {g : dk_G} {A : Nat → Prop} {Q : State → Prop} {ad : Nat → Nat} {T : Nat} {n : Nat} {res : dk_S} {d : Nat} {G : Nat → dk_S → Option dk_S} (hG : dk_GH l g ad T d G) (X : dk_X p s m args meth c b_Reader_readBoth 2 R_Reader (none) g A) (hR : dk_Rv p l e (rm_rec (d + 1)) s m args below meth c g A Q 2 b_Reader_readBoth (none) (wC g ad T) res)   {S : dk_S}  (hF : B_Reader_readBoth_0 n T G   S = some res) : dk_J p l e (rm_rec (d + 1)) s m args below meth c g A Q 2 0 0 0 [(0, .ref (ad 12))] [] (wC g ad T S) := by
  unfold B_Reader_readBoth_0 at hF
  refine dk_aload_n (k := 0) (i := 0) X 0 rfl rfl d_Reader_readBoth_0 ?_
  refine dk_callVv X v_Reader_readNot [] (hG.2.2.1 S) 12 (oC_Reader g ad T S) rfl rfl m_Reader_69 rfl rfl ⟨rfl, rfl, by show d + 16 + 1 ≤ d + 1 + 16; omega, by show 8 + (1 + 11) + (40 * d + 400) ≤ 40 * (d + 1) + 400; omega, Nat.le_refl _, Nat.le_refl _⟩ (Nat.le_of_ble_eq_true rfl) d_Reader_readBoth_1 hF (fun S9 hF => ?_)
  refine dk_iconst (v := 0) X (by decide) d_Reader_readBoth_4 ?_
  refine dk_istore_n (k := 1) (i := 1) (lv' := [(1, .int (0 : Int32)), (0, .ref (ad 12))]) X rfl (by decide) rfl d_Reader_readBoth_5 ?_
  exact dk_sub [1, 0] rfl (kb_Reader_readBoth_6 (n := n) hG X hR  n (0 : Int32) S9 hF)
def H_Reader_readBoth (n T : Nat) (G : Nat → dk_S → Option dk_S) (S : dk_S) : Option dk_S := B_Reader_readBoth_0 n T G S
theorem cg_Reader_readBoth (l : Launch) (g : dk_G) (ad : Nat → Nat) (T n d : Nat) (G : Nat → dk_S → Option dk_S) (hG : dk_GH l g ad T d G) (S : dk_S) : dk_Mv l g y_Reader_readBoth b_Reader_readBoth 2 (rm_rec (d + 1)) none [.ref (ad 12)] (wC g ad T) S (H_Reader_readBoth n T G S) := dk_enterv (by decide) rfl (Nat.le_of_ble_eq_true rfl) (fun p e s m args below meth c A Q res hF X hR => kb_Reader_readBoth_0 (n := n) hG X hR hF)
def B_Reader_readNot_0 (n T : Nat) (G : Nat → dk_S → Option dk_S)   (S : dk_S) : Option dk_S :=
  dk_c (F_Reader_sees n T (8 : Int32) S) fun r2 S1 => if ¬ r2 = 0 then (dk_c (F_Reader_opens n T S1) fun r4 S3 => if r4 = 0 then (some S3) else (dk_cv (G 2 S3) fun S5 => dk_cv (F_Reader_put n T (-8 : Int32) S5) fun S7 => dk_p S7 113 ((S7 113 0) - (1 : Int32)) fun S9 => some S9)) else (dk_cv (G 3 S1) fun S10 => some S10)
set_option maxRecDepth 20000 in
theorem kb_Reader_readNot_0 {p : Program} {l : Launch} {e : Env} {s : State} {m : MethodId} {args : Array Value} {below : List Frame} {meth : Method} {c : Code} {g : dk_G} {A : Nat → Prop} {Q : State → Prop} {ad : Nat → Nat} {T : Nat} {n : Nat} {res : dk_S} {d : Nat} {G : Nat → dk_S → Option dk_S} (hG : dk_GH l g ad T d G) (X : dk_X p s m args meth c b_Reader_readNot 1 R_Reader (none) g A) (hR : dk_Rv p l e (rm_rec (d + 1)) s m args below meth c g A Q 1 b_Reader_readNot (none) (wC g ad T) res)   {S : dk_S}  (hF : B_Reader_readNot_0 n T G   S = some res) : dk_J p l e (rm_rec (d + 1)) s m args below meth c g A Q 1 0 0 0 [(0, .ref (ad 12))] [] (wC g ad T S) := by
  unfold B_Reader_readNot_0 at hF
  refine dk_aload_n (k := 0) (i := 0) X 0 rfl rfl d_Reader_readNot_0 ?_
  refine dk_bipush (v := 8) X (by decide) d_Reader_readNot_1 ?_
  refine dk_callVi X v_Reader_sees [.int (8 : Int32)] (c_Reader_sees l g ad T n (8 : Int32) S) 12 (oC_Reader g ad T S) rfl rfl m_Reader_62 rfl rfl ⟨rfl, rfl, by show 0 + 1 ≤ d + 1 + 16; omega, by show 8 + (2 + 11) + 0 ≤ 40 * (d + 1) + 400; omega, Nat.le_refl _, Nat.le_refl _⟩ (Nat.le_of_ble_eq_true rfl) d_Reader_readNot_3 hF (fun r2 S1 hF => ?_)
  refine dk_if_ne (tgt := 16) X (by decide) d_Reader_readNot_6 hF (fun hF => ?_) (fun hF => ?_)
  · refine dk_aload_n (k := 0) (i := 0) X 0 rfl rfl d_Reader_readNot_16 ?_
    refine dk_callVi X v_Reader_opens [] (c_Reader_opens l g ad T n S1) 12 (oC_Reader g ad T S1) rfl rfl m_Reader_75 rfl rfl ⟨rfl, rfl, by show 7 + 1 ≤ d + 1 + 16; omega, by show 8 + (1 + 11) + 153 ≤ 40 * (d + 1) + 400; omega, Nat.le_refl _, Nat.le_refl _⟩ (Nat.le_of_ble_eq_true rfl) d_Reader_readNot_17 hF (fun r4 S3 hF => ?_)
    refine dk_if_eq (tgt := 43) X (by decide) d_Reader_readNot_20 hF (fun hF => ?_) (fun hF => ?_)
    · exact dk_retv hR hF d_Reader_readNot_43
    · refine dk_aload_n (k := 0) (i := 0) X 0 rfl rfl d_Reader_readNot_23 ?_
      refine dk_callVv X v_Reader_readNot [] (hG.2.2.1 S3) 12 (oC_Reader g ad T S3) rfl rfl m_Reader_69 rfl rfl ⟨rfl, rfl, by show d + 16 + 1 ≤ d + 1 + 16; omega, by show 8 + (1 + 11) + (40 * d + 400) ≤ 40 * (d + 1) + 400; omega, Nat.le_refl _, Nat.le_refl _⟩ (Nat.le_of_ble_eq_true rfl) d_Reader_readNot_24 hF (fun S5 hF => ?_)
      refine dk_aload_n (k := 0) (i := 0) X 0 rfl rfl d_Reader_readNot_27 ?_
      refine dk_bipush (v := -8) X (by decide) d_Reader_readNot_28 ?_
      refine dk_callVv X v_Reader_put [.int (-8 : Int32)] (c_Reader_put l g ad T n (-8 : Int32) S5) 12 (oC_Reader g ad T S5) rfl rfl m_Reader_66 rfl rfl ⟨rfl, rfl, by show 0 + 1 ≤ d + 1 + 16; omega, by show 8 + (2 + 11) + 0 ≤ 40 * (d + 1) + 400; omega, Nat.le_refl _, Nat.le_refl _⟩ (Nat.le_of_ble_eq_true rfl) d_Reader_readNot_30 hF (fun S7 hF => ?_)
      refine dk_aload_n (k := 0) (i := 0) X 0 rfl rfl d_Reader_readNot_33 ?_
      refine dk_dup X rfl d_Reader_readNot_34 ?_
      refine dk_get X q_Reader 12 10 (by decide) (oC_Reader g ad T S7) rfl f_Reader_32 d_Reader_readNot_35 ?_
      refine dk_iconst (v := 1) X (by decide) d_Reader_readNot_38 ?_
      refine dk_isub X d_Reader_readNot_39 ?_
      refine dk_puti X q_Reader 12 10 (by decide) (oC_Reader g ad T S7) f_Reader_32 rfl rfl (Nat.le_of_ble_eq_true rfl) (sC_Reader_open g ad T S7 _) d_Reader_readNot_40 hF (fun S9 hF => ?_)
      exact dk_retv hR hF d_Reader_readNot_43
  · refine dk_aload_n (k := 0) (i := 0) X 0 rfl rfl d_Reader_readNot_9 ?_
    refine dk_callVv X v_Reader_readCompared [] (hG.2.2.2.1 S1) 12 (oC_Reader g ad T S1) rfl rfl m_Reader_72 rfl rfl ⟨rfl, rfl, by show d + 16 + 1 ≤ d + 1 + 16; omega, by show 8 + (2 + 11) + (40 * d + 400) ≤ 40 * (d + 1) + 400; omega, Nat.le_refl _, Nat.le_refl _⟩ (Nat.le_of_ble_eq_true rfl) d_Reader_readNot_10 hF (fun S10 hF => ?_)
    refine dk_goto (tgt := 43) X (by decide) d_Reader_readNot_13 ?_
    exact dk_retv hR hF d_Reader_readNot_43
def H_Reader_readNot (n T : Nat) (G : Nat → dk_S → Option dk_S) (S : dk_S) : Option dk_S := B_Reader_readNot_0 n T G S
theorem cg_Reader_readNot (l : Launch) (g : dk_G) (ad : Nat → Nat) (T n d : Nat) (G : Nat → dk_S → Option dk_S) (hG : dk_GH l g ad T d G) (S : dk_S) : dk_Mv l g y_Reader_readNot b_Reader_readNot 1 (rm_rec (d + 1)) none [.ref (ad 12)] (wC g ad T) S (H_Reader_readNot n T G S) := dk_enterv (by decide) rfl (Nat.le_of_ble_eq_true rfl) (fun p e s m args below meth c A Q res hF X hR => kb_Reader_readNot_0 (n := n) hG X hR hF)
def B_Reader_readCompared_38 (n T : Nat) (G : Nat → dk_S → Option dk_S)  (u0 : Int32) (S : dk_S) : Option dk_S :=
  dk_cv (F_Reader_scan n T S) fun S1 => dk_cv (G 4 S1) fun S3 => dk_cv (F_Reader_put n T u0 S3) fun S5 => some S5
set_option maxRecDepth 20000 in
theorem kb_Reader_readCompared_38 {p : Program} {l : Launch} {e : Env} {s : State} {m : MethodId} {args : Array Value} {below : List Frame} {meth : Method} {c : Code} {g : dk_G} {A : Nat → Prop} {Q : State → Prop} {ad : Nat → Nat} {T : Nat} {n : Nat} {res : dk_S} {d : Nat} {G : Nat → dk_S → Option dk_S} (hG : dk_GH l g ad T d G) (X : dk_X p s m args meth c b_Reader_readCompared 2 R_Reader (none) g A) (hR : dk_Rv p l e (rm_rec (d + 1)) s m args below meth c g A Q 2 b_Reader_readCompared (none) (wC g ad T) res)  {u0 : Int32} {S : dk_S}  (hF : B_Reader_readCompared_38 n T G  u0 S = some res) : dk_J p l e (rm_rec (d + 1)) s m args below meth c g A Q 2 0 0 38 [(0, .ref (ad 12))] [.int u0] (wC g ad T S) := by
  unfold B_Reader_readCompared_38 at hF
  refine dk_istore_n (k := 1) (i := 1) (lv' := [(1, .int u0), (0, .ref (ad 12))]) X rfl (by decide) rfl d_Reader_readCompared_38 ?_
  refine dk_aload_n (k := 0) (i := 0) X 1 rfl rfl d_Reader_readCompared_39 ?_
  refine dk_callVv X v_Reader_scan [] (c_Reader_scan l g ad T n S) 12 (oC_Reader g ad T S) rfl rfl m_Reader_35 rfl rfl ⟨rfl, rfl, by show 6 + 1 ≤ d + 1 + 16; omega, by show 8 + (2 + 11) + 132 ≤ 40 * (d + 1) + 400; omega, Nat.le_refl _, Nat.le_refl _⟩ (Nat.le_of_ble_eq_true rfl) d_Reader_readCompared_40 hF (fun S1 hF => ?_)
  refine dk_aload_n (k := 0) (i := 0) X 1 rfl rfl d_Reader_readCompared_43 ?_
  refine dk_callVv X v_Reader_readSum [] (hG.2.2.2.2.1 S1) 12 (oC_Reader g ad T S1) rfl rfl m_Reader_79 rfl rfl ⟨rfl, rfl, by show d + 16 + 1 ≤ d + 1 + 16; omega, by show 8 + (3 + 11) + (40 * d + 400) ≤ 40 * (d + 1) + 400; omega, Nat.le_refl _, Nat.le_refl _⟩ (Nat.le_of_ble_eq_true rfl) d_Reader_readCompared_44 hF (fun S3 hF => ?_)
  refine dk_aload_n (k := 0) (i := 0) X 1 rfl rfl d_Reader_readCompared_47 ?_
  refine dk_iload_n (k := 1) (i := 1) X 0 rfl rfl d_Reader_readCompared_48 ?_
  refine dk_callVv X v_Reader_put [.int u0] (c_Reader_put l g ad T n u0 S3) 12 (oC_Reader g ad T S3) rfl rfl m_Reader_66 rfl rfl ⟨rfl, rfl, by show 0 + 1 ≤ d + 1 + 16; omega, by show 8 + (2 + 11) + 0 ≤ 40 * (d + 1) + 400; omega, Nat.le_refl _, Nat.le_refl _⟩ (Nat.le_of_ble_eq_true rfl) d_Reader_readCompared_49 hF (fun S5 hF => ?_)
  exact dk_retv hR hF d_Reader_readCompared_52
def B_Reader_readCompared_22 (n T : Nat) (G : Nat → dk_S → Option dk_S)   (S : dk_S) : Option dk_S :=
  if ¬ (S 109 0) = (60 : Int32) then (B_Reader_readCompared_38 n T G  (-13 : Int32) S) else (B_Reader_readCompared_38 n T G  (-12 : Int32) S)
set_option maxRecDepth 20000 in
theorem kb_Reader_readCompared_22 {p : Program} {l : Launch} {e : Env} {s : State} {m : MethodId} {args : Array Value} {below : List Frame} {meth : Method} {c : Code} {g : dk_G} {A : Nat → Prop} {Q : State → Prop} {ad : Nat → Nat} {T : Nat} {n : Nat} {res : dk_S} {d : Nat} {G : Nat → dk_S → Option dk_S} (hG : dk_GH l g ad T d G) (X : dk_X p s m args meth c b_Reader_readCompared 2 R_Reader (none) g A) (hR : dk_Rv p l e (rm_rec (d + 1)) s m args below meth c g A Q 2 b_Reader_readCompared (none) (wC g ad T) res)   {S : dk_S}  (hF : B_Reader_readCompared_22 n T G   S = some res) : dk_J p l e (rm_rec (d + 1)) s m args below meth c g A Q 2 0 0 22 [(0, .ref (ad 12))] [] (wC g ad T S) := by
  unfold B_Reader_readCompared_22 at hF
  refine dk_aload_n (k := 0) (i := 0) X 0 rfl rfl d_Reader_readCompared_22 ?_
  refine dk_get X q_Reader 12 6 (by decide) (oC_Reader g ad T S) rfl f_Reader_82 d_Reader_readCompared_23 ?_
  refine dk_bipush (v := 60) X (by decide) d_Reader_readCompared_26 ?_
  refine dk_icmp_ne (tgt := 36) X (by decide) d_Reader_readCompared_28 hF (fun hF => ?_) (fun hF => ?_)
  · refine dk_bipush (v := -13) X (by decide) d_Reader_readCompared_36 ?_
    exact (kb_Reader_readCompared_38 (n := n) hG X hR   hF)
  · refine dk_bipush (v := -12) X (by decide) d_Reader_readCompared_31 ?_
    refine dk_goto (tgt := 38) X (by decide) d_Reader_readCompared_33 ?_
    exact (kb_Reader_readCompared_38 (n := n) hG X hR   hF)
def B_Reader_readCompared_0 (n T : Nat) (G : Nat → dk_S → Option dk_S)   (S : dk_S) : Option dk_S :=
  dk_cv (G 4 S) fun S7 => dk_c (F_Reader_sees n T (60 : Int32) S7) fun r10 S9 => if ¬ r10 = 0 then (B_Reader_readCompared_22 n T G  S9) else (dk_c (F_Reader_sees n T (61 : Int32) S9) fun r12 S11 => if r12 = 0 then (some S11) else (B_Reader_readCompared_22 n T G  S11))
set_option maxRecDepth 20000 in
theorem kb_Reader_readCompared_0 {p : Program} {l : Launch} {e : Env} {s : State} {m : MethodId} {args : Array Value} {below : List Frame} {meth : Method} {c : Code} {g : dk_G} {A : Nat → Prop} {Q : State → Prop} {ad : Nat → Nat} {T : Nat} {n : Nat} {res : dk_S} {d : Nat} {G : Nat → dk_S → Option dk_S} (hG : dk_GH l g ad T d G) (X : dk_X p s m args meth c b_Reader_readCompared 2 R_Reader (none) g A) (hR : dk_Rv p l e (rm_rec (d + 1)) s m args below meth c g A Q 2 b_Reader_readCompared (none) (wC g ad T) res)   {S : dk_S}  (hF : B_Reader_readCompared_0 n T G   S = some res) : dk_J p l e (rm_rec (d + 1)) s m args below meth c g A Q 2 0 0 0 [(0, .ref (ad 12))] [] (wC g ad T S) := by
  unfold B_Reader_readCompared_0 at hF
  refine dk_aload_n (k := 0) (i := 0) X 0 rfl rfl d_Reader_readCompared_0 ?_
  refine dk_callVv X v_Reader_readSum [] (hG.2.2.2.2.1 S) 12 (oC_Reader g ad T S) rfl rfl m_Reader_79 rfl rfl ⟨rfl, rfl, by show d + 16 + 1 ≤ d + 1 + 16; omega, by show 8 + (3 + 11) + (40 * d + 400) ≤ 40 * (d + 1) + 400; omega, Nat.le_refl _, Nat.le_refl _⟩ (Nat.le_of_ble_eq_true rfl) d_Reader_readCompared_1 hF (fun S7 hF => ?_)
  refine dk_aload_n (k := 0) (i := 0) X 0 rfl rfl d_Reader_readCompared_4 ?_
  refine dk_bipush (v := 60) X (by decide) d_Reader_readCompared_5 ?_
  refine dk_callVi X v_Reader_sees [.int (60 : Int32)] (c_Reader_sees l g ad T n (60 : Int32) S7) 12 (oC_Reader g ad T S7) rfl rfl m_Reader_62 rfl rfl ⟨rfl, rfl, by show 0 + 1 ≤ d + 1 + 16; omega, by show 8 + (2 + 11) + 0 ≤ 40 * (d + 1) + 400; omega, Nat.le_refl _, Nat.le_refl _⟩ (Nat.le_of_ble_eq_true rfl) d_Reader_readCompared_7 hF (fun r10 S9 hF => ?_)
  refine dk_if_ne (tgt := 22) X (by decide) d_Reader_readCompared_10 hF (fun hF => ?_) (fun hF => ?_)
  · exact (kb_Reader_readCompared_22 (n := n) hG X hR   hF)
  · refine dk_aload_n (k := 0) (i := 0) X 0 rfl rfl d_Reader_readCompared_13 ?_
    refine dk_bipush (v := 61) X (by decide) d_Reader_readCompared_14 ?_
    refine dk_callVi X v_Reader_sees [.int (61 : Int32)] (c_Reader_sees l g ad T n (61 : Int32) S9) 12 (oC_Reader g ad T S9) rfl rfl m_Reader_62 rfl rfl ⟨rfl, rfl, by show 0 + 1 ≤ d + 1 + 16; omega, by show 8 + (2 + 11) + 0 ≤ 40 * (d + 1) + 400; omega, Nat.le_refl _, Nat.le_refl _⟩ (Nat.le_of_ble_eq_true rfl) d_Reader_readCompared_16 hF (fun r12 S11 hF => ?_)
    refine dk_if_eq (tgt := 52) X (by decide) d_Reader_readCompared_19 hF (fun hF => ?_) (fun hF => ?_)
    · exact dk_retv hR hF d_Reader_readCompared_52
    · exact (kb_Reader_readCompared_22 (n := n) hG X hR   hF)
def H_Reader_readCompared (n T : Nat) (G : Nat → dk_S → Option dk_S) (S : dk_S) : Option dk_S := B_Reader_readCompared_0 n T G S
theorem cg_Reader_readCompared (l : Launch) (g : dk_G) (ad : Nat → Nat) (T n d : Nat) (G : Nat → dk_S → Option dk_S) (hG : dk_GH l g ad T d G) (S : dk_S) : dk_Mv l g y_Reader_readCompared b_Reader_readCompared 2 (rm_rec (d + 1)) none [.ref (ad 12)] (wC g ad T) S (H_Reader_readCompared n T G S) := dk_enterv (by decide) rfl (Nat.le_of_ble_eq_true rfl) (fun p e s m args below meth c A Q res hF X hR => kb_Reader_readCompared_0 (n := n) hG X hR hF)
def B_Reader_readSum_47 (n T : Nat) (G : Nat → dk_S → Option dk_S) (k6 : Int32 → dk_S → Option dk_S) (x1 : Int32) (u0 : Int32) (S : dk_S) : Option dk_S :=
  dk_cv (F_Reader_scan n T S) fun S1 => dk_cv (G 5 S1) fun S3 => dk_cv (F_Reader_put n T u0 S3) fun S5 => k6 (x1 + (1 : Int32)) S5
set_option maxRecDepth 20000 in
theorem kb_Reader_readSum_47 {p : Program} {l : Launch} {e : Env} {s : State} {m : MethodId} {args : Array Value} {below : List Frame} {meth : Method} {c : Code} {g : dk_G} {A : Nat → Prop} {Q : State → Prop} {ad : Nat → Nat} {T : Nat} {n : Nat} {res : dk_S} {d : Nat} {G : Nat → dk_S → Option dk_S} (hG : dk_GH l g ad T d G) (X : dk_X p s m args meth c b_Reader_readSum 3 R_Reader (none) g A) (hR : dk_Rv p l e (rm_rec (d + 1)) s m args below meth c g A Q 3 b_Reader_readSum (none) (wC g ad T) res) {k6 : Int32 → dk_S → Option dk_S} (hk6 : ∀ (x1 : Int32)  (S : dk_S), k6 x1 S = some res → dk_J p l e (rm_rec (d + 1)) s m args below meth c g A Q 3 0 0 6 [(0, .ref (ad 12)), (1, .int x1)] [] (wC g ad T S)) {x1 : Int32} {u0 : Int32} {S : dk_S}  (hF : B_Reader_readSum_47 n T G k6 x1 u0 S = some res) : dk_J p l e (rm_rec (d + 1)) s m args below meth c g A Q 3 0 0 47 [(0, .ref (ad 12)), (1, .int x1)] [.int u0] (wC g ad T S) := by
  unfold B_Reader_readSum_47 at hF
  refine dk_istore_n (k := 2) (i := 2) (lv' := [(2, .int u0), (0, .ref (ad 12)), (1, .int x1)]) X rfl (by decide) rfl d_Reader_readSum_47 ?_
  refine dk_aload_n (k := 0) (i := 0) X 1 rfl rfl d_Reader_readSum_48 ?_
  refine dk_callVv X v_Reader_scan [] (c_Reader_scan l g ad T n S) 12 (oC_Reader g ad T S) rfl rfl m_Reader_35 rfl rfl ⟨rfl, rfl, by show 6 + 1 ≤ d + 1 + 16; omega, by show 8 + (2 + 11) + 132 ≤ 40 * (d + 1) + 400; omega, Nat.le_refl _, Nat.le_refl _⟩ (Nat.le_of_ble_eq_true rfl) d_Reader_readSum_49 hF (fun S1 hF => ?_)
  refine dk_aload_n (k := 0) (i := 0) X 1 rfl rfl d_Reader_readSum_52 ?_
  refine dk_callVv X v_Reader_readTerm [] (hG.2.2.2.2.2.1 S1) 12 (oC_Reader g ad T S1) rfl rfl m_Reader_85 rfl rfl ⟨rfl, rfl, by show d + 16 + 1 ≤ d + 1 + 16; omega, by show 8 + (2 + 11) + (40 * d + 400) ≤ 40 * (d + 1) + 400; omega, Nat.le_refl _, Nat.le_refl _⟩ (Nat.le_of_ble_eq_true rfl) d_Reader_readSum_53 hF (fun S3 hF => ?_)
  refine dk_aload_n (k := 0) (i := 0) X 1 rfl rfl d_Reader_readSum_56 ?_
  refine dk_iload_n (k := 2) (i := 2) X 0 rfl rfl d_Reader_readSum_57 ?_
  refine dk_callVv X v_Reader_put [.int u0] (c_Reader_put l g ad T n u0 S3) 12 (oC_Reader g ad T S3) rfl rfl m_Reader_66 rfl rfl ⟨rfl, rfl, by show 0 + 1 ≤ d + 1 + 16; omega, by show 8 + (2 + 11) + 0 ≤ 40 * (d + 1) + 400; omega, Nat.le_refl _, Nat.le_refl _⟩ (Nat.le_of_ble_eq_true rfl) d_Reader_readSum_58 hF (fun S5 hF => ?_)
  refine dk_iinc (i := 1) (v := (x1 + (1 : Int32))) (lv' := [(1, .int (x1 + (1 : Int32))), (2, .int u0), (0, .ref (ad 12))]) X 2 rfl (dk_ii _ (by decide)) (by decide) rfl d_Reader_readSum_61 ?_
  refine dk_goto (tgt := 6) X (by decide) d_Reader_readSum_64 ?_
  exact dk_sub [2, 0] rfl (hk6 (x1 + (1 : Int32)) S5 hF)
def B_Reader_readSum_31 (n T : Nat) (G : Nat → dk_S → Option dk_S) (k6 : Int32 → dk_S → Option dk_S) (x1 : Int32) (S : dk_S) : Option dk_S :=
  if ¬ (S 109 0) = (43 : Int32) then (B_Reader_readSum_47 n T G k6 x1 (-11 : Int32) S) else (B_Reader_readSum_47 n T G k6 x1 (-10 : Int32) S)
set_option maxRecDepth 20000 in
theorem kb_Reader_readSum_31 {p : Program} {l : Launch} {e : Env} {s : State} {m : MethodId} {args : Array Value} {below : List Frame} {meth : Method} {c : Code} {g : dk_G} {A : Nat → Prop} {Q : State → Prop} {ad : Nat → Nat} {T : Nat} {n : Nat} {res : dk_S} {d : Nat} {G : Nat → dk_S → Option dk_S} (hG : dk_GH l g ad T d G) (X : dk_X p s m args meth c b_Reader_readSum 3 R_Reader (none) g A) (hR : dk_Rv p l e (rm_rec (d + 1)) s m args below meth c g A Q 3 b_Reader_readSum (none) (wC g ad T) res) {k6 : Int32 → dk_S → Option dk_S} (hk6 : ∀ (x1 : Int32)  (S : dk_S), k6 x1 S = some res → dk_J p l e (rm_rec (d + 1)) s m args below meth c g A Q 3 0 0 6 [(0, .ref (ad 12)), (1, .int x1)] [] (wC g ad T S)) {x1 : Int32} {S : dk_S}  (hF : B_Reader_readSum_31 n T G k6 x1 S = some res) : dk_J p l e (rm_rec (d + 1)) s m args below meth c g A Q 3 0 0 31 [(0, .ref (ad 12)), (1, .int x1)] [] (wC g ad T S) := by
  unfold B_Reader_readSum_31 at hF
  refine dk_aload_n (k := 0) (i := 0) X 0 rfl rfl d_Reader_readSum_31 ?_
  refine dk_get X q_Reader 12 6 (by decide) (oC_Reader g ad T S) rfl f_Reader_82 d_Reader_readSum_32 ?_
  refine dk_bipush (v := 43) X (by decide) d_Reader_readSum_35 ?_
  refine dk_icmp_ne (tgt := 45) X (by decide) d_Reader_readSum_37 hF (fun hF => ?_) (fun hF => ?_)
  · refine dk_bipush (v := -11) X (by decide) d_Reader_readSum_45 ?_
    exact (kb_Reader_readSum_47 (n := n) hG X hR hk6  hF)
  · refine dk_bipush (v := -10) X (by decide) d_Reader_readSum_40 ?_
    refine dk_goto (tgt := 47) X (by decide) d_Reader_readSum_42 ?_
    exact (kb_Reader_readSum_47 (n := n) hG X hR hk6  hF)
def B_Reader_readSum_6b (n T : Nat) (G : Nat → dk_S → Option dk_S) (k6 : Int32 → dk_S → Option dk_S) (x1 : Int32) (S : dk_S) : Option dk_S :=
  if (160 : Int32) ≤ x1 then (some S) else (dk_c (F_Reader_sees n T (43 : Int32) S) fun r8 S7 => if ¬ r8 = 0 then (B_Reader_readSum_31 n T G k6 x1 S7) else (dk_c (F_Reader_sees n T (45 : Int32) S7) fun r10 S9 => if r10 = 0 then (some S9) else (B_Reader_readSum_31 n T G k6 x1 S9)))
set_option maxRecDepth 20000 in
theorem kb_Reader_readSum_6b {p : Program} {l : Launch} {e : Env} {s : State} {m : MethodId} {args : Array Value} {below : List Frame} {meth : Method} {c : Code} {g : dk_G} {A : Nat → Prop} {Q : State → Prop} {ad : Nat → Nat} {T : Nat} {n : Nat} {res : dk_S} {d : Nat} {G : Nat → dk_S → Option dk_S} (hG : dk_GH l g ad T d G) (X : dk_X p s m args meth c b_Reader_readSum 3 R_Reader (none) g A) (hR : dk_Rv p l e (rm_rec (d + 1)) s m args below meth c g A Q 3 b_Reader_readSum (none) (wC g ad T) res) {k6 : Int32 → dk_S → Option dk_S} (hk6 : ∀ (x1 : Int32)  (S : dk_S), k6 x1 S = some res → dk_J p l e (rm_rec (d + 1)) s m args below meth c g A Q 3 0 0 6 [(0, .ref (ad 12)), (1, .int x1)] [] (wC g ad T S)) {x1 : Int32} {S : dk_S}  (hF : B_Reader_readSum_6b n T G k6 x1 S = some res) : dk_J p l e (rm_rec (d + 1)) s m args below meth c g A Q 3 0 0 6 [(0, .ref (ad 12)), (1, .int x1)] [] (wC g ad T S) := by
  unfold B_Reader_readSum_6b at hF
  refine dk_iload_n (k := 1) (i := 1) X 1 rfl rfl d_Reader_readSum_6 ?_
  refine dk_sipush (v := 160) X (by decide) d_Reader_readSum_7 ?_
  refine dk_icmp_ge (tgt := 67) X (by decide) d_Reader_readSum_10 hF (fun hF => ?_) (fun hF => ?_)
  · exact dk_retv hR hF d_Reader_readSum_67
  · refine dk_aload_n (k := 0) (i := 0) X 0 rfl rfl d_Reader_readSum_13 ?_
    refine dk_bipush (v := 43) X (by decide) d_Reader_readSum_14 ?_
    refine dk_callVi X v_Reader_sees [.int (43 : Int32)] (c_Reader_sees l g ad T n (43 : Int32) S) 12 (oC_Reader g ad T S) rfl rfl m_Reader_62 rfl rfl ⟨rfl, rfl, by show 0 + 1 ≤ d + 1 + 16; omega, by show 8 + (2 + 11) + 0 ≤ 40 * (d + 1) + 400; omega, Nat.le_refl _, Nat.le_refl _⟩ (Nat.le_of_ble_eq_true rfl) d_Reader_readSum_16 hF (fun r8 S7 hF => ?_)
    refine dk_if_ne (tgt := 31) X (by decide) d_Reader_readSum_19 hF (fun hF => ?_) (fun hF => ?_)
    · exact (kb_Reader_readSum_31 (n := n) hG X hR hk6  hF)
    · refine dk_aload_n (k := 0) (i := 0) X 0 rfl rfl d_Reader_readSum_22 ?_
      refine dk_bipush (v := 45) X (by decide) d_Reader_readSum_23 ?_
      refine dk_callVi X v_Reader_sees [.int (45 : Int32)] (c_Reader_sees l g ad T n (45 : Int32) S7) 12 (oC_Reader g ad T S7) rfl rfl m_Reader_62 rfl rfl ⟨rfl, rfl, by show 0 + 1 ≤ d + 1 + 16; omega, by show 8 + (2 + 11) + 0 ≤ 40 * (d + 1) + 400; omega, Nat.le_refl _, Nat.le_refl _⟩ (Nat.le_of_ble_eq_true rfl) d_Reader_readSum_25 hF (fun r10 S9 hF => ?_)
      refine dk_if_eq (tgt := 67) X (by decide) d_Reader_readSum_28 hF (fun hF => ?_) (fun hF => ?_)
      · exact dk_retv hR hF d_Reader_readSum_67
      · exact (kb_Reader_readSum_31 (n := n) hG X hR hk6  hF)
def B_Reader_readSum_6 (n T : Nat) (G : Nat → dk_S → Option dk_S)  : Nat → Int32 → dk_S → Option dk_S
  | 0 => fun _ _ => none
  | q + 1 => fun x1 S => B_Reader_readSum_6b n T G (fun x1 S => B_Reader_readSum_6 n T G  q x1 S) x1 S
theorem kb_Reader_readSum_6 {p : Program} {l : Launch} {e : Env} {s : State} {m : MethodId} {args : Array Value} {below : List Frame} {meth : Method} {c : Code} {g : dk_G} {A : Nat → Prop} {Q : State → Prop} {ad : Nat → Nat} {T : Nat} {n : Nat} {res : dk_S} {d : Nat} {G : Nat → dk_S → Option dk_S} (hG : dk_GH l g ad T d G) (X : dk_X p s m args meth c b_Reader_readSum 3 R_Reader (none) g A) (hR : dk_Rv p l e (rm_rec (d + 1)) s m args below meth c g A Q 3 b_Reader_readSum (none) (wC g ad T) res)  : ∀ (q : Nat) (x1 : Int32)  (S : dk_S), B_Reader_readSum_6 n T G  q x1 S = some res → dk_J p l e (rm_rec (d + 1)) s m args below meth c g A Q 3 0 0 6 [(0, .ref (ad 12)), (1, .int x1)] [] (wC g ad T S) := by
  intro q
  induction q with
  | zero => intro x1  S hF; cases hF
  | succ q ih => intro x1  S hF; exact kb_Reader_readSum_6b (n := n) hG X hR ih  hF
def B_Reader_readSum_0 (n T : Nat) (G : Nat → dk_S → Option dk_S)   (S : dk_S) : Option dk_S :=
  dk_cv (G 5 S) fun S11 => B_Reader_readSum_6 n T G  n (0 : Int32) S11
set_option maxRecDepth 20000 in
theorem kb_Reader_readSum_0 {p : Program} {l : Launch} {e : Env} {s : State} {m : MethodId} {args : Array Value} {below : List Frame} {meth : Method} {c : Code} {g : dk_G} {A : Nat → Prop} {Q : State → Prop} {ad : Nat → Nat} {T : Nat} {n : Nat} {res : dk_S} {d : Nat} {G : Nat → dk_S → Option dk_S} (hG : dk_GH l g ad T d G) (X : dk_X p s m args meth c b_Reader_readSum 3 R_Reader (none) g A) (hR : dk_Rv p l e (rm_rec (d + 1)) s m args below meth c g A Q 3 b_Reader_readSum (none) (wC g ad T) res)   {S : dk_S}  (hF : B_Reader_readSum_0 n T G   S = some res) : dk_J p l e (rm_rec (d + 1)) s m args below meth c g A Q 3 0 0 0 [(0, .ref (ad 12))] [] (wC g ad T S) := by
  unfold B_Reader_readSum_0 at hF
  refine dk_aload_n (k := 0) (i := 0) X 0 rfl rfl d_Reader_readSum_0 ?_
  refine dk_callVv X v_Reader_readTerm [] (hG.2.2.2.2.2.1 S) 12 (oC_Reader g ad T S) rfl rfl m_Reader_85 rfl rfl ⟨rfl, rfl, by show d + 16 + 1 ≤ d + 1 + 16; omega, by show 8 + (2 + 11) + (40 * d + 400) ≤ 40 * (d + 1) + 400; omega, Nat.le_refl _, Nat.le_refl _⟩ (Nat.le_of_ble_eq_true rfl) d_Reader_readSum_1 hF (fun S11 hF => ?_)
  refine dk_iconst (v := 0) X (by decide) d_Reader_readSum_4 ?_
  refine dk_istore_n (k := 1) (i := 1) (lv' := [(1, .int (0 : Int32)), (0, .ref (ad 12))]) X rfl (by decide) rfl d_Reader_readSum_5 ?_
  exact dk_sub [1, 0] rfl (kb_Reader_readSum_6 (n := n) hG X hR  n (0 : Int32) S11 hF)
def H_Reader_readSum (n T : Nat) (G : Nat → dk_S → Option dk_S) (S : dk_S) : Option dk_S := B_Reader_readSum_0 n T G S
theorem cg_Reader_readSum (l : Launch) (g : dk_G) (ad : Nat → Nat) (T n d : Nat) (G : Nat → dk_S → Option dk_S) (hG : dk_GH l g ad T d G) (S : dk_S) : dk_Mv l g y_Reader_readSum b_Reader_readSum 3 (rm_rec (d + 1)) none [.ref (ad 12)] (wC g ad T) S (H_Reader_readSum n T G S) := dk_enterv (by decide) rfl (Nat.le_of_ble_eq_true rfl) (fun p e s m args below meth c A Q res hF X hR => kb_Reader_readSum_0 (n := n) hG X hR hF)
def B_Reader_readTerm_6b (n T : Nat) (G : Nat → dk_S → Option dk_S) (k6 : Int32 → dk_S → Option dk_S) (x1 : Int32) (S : dk_S) : Option dk_S :=
  if (160 : Int32) ≤ x1 then (some S) else (dk_c (F_Reader_sees n T (42 : Int32) S) fun r2 S1 => if r2 = 0 then (some S1) else (dk_cv (F_Reader_scan n T S1) fun S3 => dk_cv (G 6 S3) fun S5 => dk_cv (F_Reader_put n T (-9 : Int32) S5) fun S7 => k6 (x1 + (1 : Int32)) S7))
set_option maxRecDepth 20000 in
theorem kb_Reader_readTerm_6b {p : Program} {l : Launch} {e : Env} {s : State} {m : MethodId} {args : Array Value} {below : List Frame} {meth : Method} {c : Code} {g : dk_G} {A : Nat → Prop} {Q : State → Prop} {ad : Nat → Nat} {T : Nat} {n : Nat} {res : dk_S} {d : Nat} {G : Nat → dk_S → Option dk_S} (hG : dk_GH l g ad T d G) (X : dk_X p s m args meth c b_Reader_readTerm 2 R_Reader (none) g A) (hR : dk_Rv p l e (rm_rec (d + 1)) s m args below meth c g A Q 2 b_Reader_readTerm (none) (wC g ad T) res) {k6 : Int32 → dk_S → Option dk_S} (hk6 : ∀ (x1 : Int32)  (S : dk_S), k6 x1 S = some res → dk_J p l e (rm_rec (d + 1)) s m args below meth c g A Q 2 0 0 6 [(0, .ref (ad 12)), (1, .int x1)] [] (wC g ad T S)) {x1 : Int32} {S : dk_S}  (hF : B_Reader_readTerm_6b n T G k6 x1 S = some res) : dk_J p l e (rm_rec (d + 1)) s m args below meth c g A Q 2 0 0 6 [(0, .ref (ad 12)), (1, .int x1)] [] (wC g ad T S) := by
  unfold B_Reader_readTerm_6b at hF
  refine dk_iload_n (k := 1) (i := 1) X 1 rfl rfl d_Reader_readTerm_6 ?_
  refine dk_sipush (v := 160) X (by decide) d_Reader_readTerm_7 ?_
  refine dk_icmp_ge (tgt := 42) X (by decide) d_Reader_readTerm_10 hF (fun hF => ?_) (fun hF => ?_)
  · exact dk_retv hR hF d_Reader_readTerm_42
  · refine dk_aload_n (k := 0) (i := 0) X 0 rfl rfl d_Reader_readTerm_13 ?_
    refine dk_bipush (v := 42) X (by decide) d_Reader_readTerm_14 ?_
    refine dk_callVi X v_Reader_sees [.int (42 : Int32)] (c_Reader_sees l g ad T n (42 : Int32) S) 12 (oC_Reader g ad T S) rfl rfl m_Reader_62 rfl rfl ⟨rfl, rfl, by show 0 + 1 ≤ d + 1 + 16; omega, by show 8 + (2 + 11) + 0 ≤ 40 * (d + 1) + 400; omega, Nat.le_refl _, Nat.le_refl _⟩ (Nat.le_of_ble_eq_true rfl) d_Reader_readTerm_16 hF (fun r2 S1 hF => ?_)
    refine dk_if_eq (tgt := 42) X (by decide) d_Reader_readTerm_19 hF (fun hF => ?_) (fun hF => ?_)
    · exact dk_retv hR hF d_Reader_readTerm_42
    · refine dk_aload_n (k := 0) (i := 0) X 0 rfl rfl d_Reader_readTerm_22 ?_
      refine dk_callVv X v_Reader_scan [] (c_Reader_scan l g ad T n S1) 12 (oC_Reader g ad T S1) rfl rfl m_Reader_35 rfl rfl ⟨rfl, rfl, by show 6 + 1 ≤ d + 1 + 16; omega, by show 8 + (2 + 11) + 132 ≤ 40 * (d + 1) + 400; omega, Nat.le_refl _, Nat.le_refl _⟩ (Nat.le_of_ble_eq_true rfl) d_Reader_readTerm_23 hF (fun S3 hF => ?_)
      refine dk_aload_n (k := 0) (i := 0) X 0 rfl rfl d_Reader_readTerm_26 ?_
      refine dk_callVv X v_Reader_readOne [] (hG.2.2.2.2.2.2 S3) 12 (oC_Reader g ad T S3) rfl rfl m_Reader_88 rfl rfl ⟨rfl, rfl, by show d + 16 + 1 ≤ d + 1 + 16; omega, by show 8 + (1 + 11) + (40 * d + 400) ≤ 40 * (d + 1) + 400; omega, Nat.le_refl _, Nat.le_refl _⟩ (Nat.le_of_ble_eq_true rfl) d_Reader_readTerm_27 hF (fun S5 hF => ?_)
      refine dk_aload_n (k := 0) (i := 0) X 0 rfl rfl d_Reader_readTerm_30 ?_
      refine dk_bipush (v := -9) X (by decide) d_Reader_readTerm_31 ?_
      refine dk_callVv X v_Reader_put [.int (-9 : Int32)] (c_Reader_put l g ad T n (-9 : Int32) S5) 12 (oC_Reader g ad T S5) rfl rfl m_Reader_66 rfl rfl ⟨rfl, rfl, by show 0 + 1 ≤ d + 1 + 16; omega, by show 8 + (2 + 11) + 0 ≤ 40 * (d + 1) + 400; omega, Nat.le_refl _, Nat.le_refl _⟩ (Nat.le_of_ble_eq_true rfl) d_Reader_readTerm_33 hF (fun S7 hF => ?_)
      refine dk_iinc (i := 1) (v := (x1 + (1 : Int32))) (lv' := [(1, .int (x1 + (1 : Int32))), (0, .ref (ad 12))]) X 1 rfl (dk_ii _ (by decide)) (by decide) rfl d_Reader_readTerm_36 ?_
      refine dk_goto (tgt := 6) X (by decide) d_Reader_readTerm_39 ?_
      exact dk_sub [1, 0] rfl (hk6 (x1 + (1 : Int32)) S7 hF)
def B_Reader_readTerm_6 (n T : Nat) (G : Nat → dk_S → Option dk_S)  : Nat → Int32 → dk_S → Option dk_S
  | 0 => fun _ _ => none
  | q + 1 => fun x1 S => B_Reader_readTerm_6b n T G (fun x1 S => B_Reader_readTerm_6 n T G  q x1 S) x1 S
theorem kb_Reader_readTerm_6 {p : Program} {l : Launch} {e : Env} {s : State} {m : MethodId} {args : Array Value} {below : List Frame} {meth : Method} {c : Code} {g : dk_G} {A : Nat → Prop} {Q : State → Prop} {ad : Nat → Nat} {T : Nat} {n : Nat} {res : dk_S} {d : Nat} {G : Nat → dk_S → Option dk_S} (hG : dk_GH l g ad T d G) (X : dk_X p s m args meth c b_Reader_readTerm 2 R_Reader (none) g A) (hR : dk_Rv p l e (rm_rec (d + 1)) s m args below meth c g A Q 2 b_Reader_readTerm (none) (wC g ad T) res)  : ∀ (q : Nat) (x1 : Int32)  (S : dk_S), B_Reader_readTerm_6 n T G  q x1 S = some res → dk_J p l e (rm_rec (d + 1)) s m args below meth c g A Q 2 0 0 6 [(0, .ref (ad 12)), (1, .int x1)] [] (wC g ad T S) := by
  intro q
  induction q with
  | zero => intro x1  S hF; cases hF
  | succ q ih => intro x1  S hF; exact kb_Reader_readTerm_6b (n := n) hG X hR ih  hF
def B_Reader_readTerm_0 (n T : Nat) (G : Nat → dk_S → Option dk_S)   (S : dk_S) : Option dk_S :=
  dk_cv (G 6 S) fun S9 => B_Reader_readTerm_6 n T G  n (0 : Int32) S9
set_option maxRecDepth 20000 in
theorem kb_Reader_readTerm_0 {p : Program} {l : Launch} {e : Env} {s : State} {m : MethodId} {args : Array Value} {below : List Frame} {meth : Method} {c : Code} {g : dk_G} {A : Nat → Prop} {Q : State → Prop} {ad : Nat → Nat} {T : Nat} {n : Nat} {res : dk_S} {d : Nat} {G : Nat → dk_S → Option dk_S} (hG : dk_GH l g ad T d G) (X : dk_X p s m args meth c b_Reader_readTerm 2 R_Reader (none) g A) (hR : dk_Rv p l e (rm_rec (d + 1)) s m args below meth c g A Q 2 b_Reader_readTerm (none) (wC g ad T) res)   {S : dk_S}  (hF : B_Reader_readTerm_0 n T G   S = some res) : dk_J p l e (rm_rec (d + 1)) s m args below meth c g A Q 2 0 0 0 [(0, .ref (ad 12))] [] (wC g ad T S) := by
  unfold B_Reader_readTerm_0 at hF
  refine dk_aload_n (k := 0) (i := 0) X 0 rfl rfl d_Reader_readTerm_0 ?_
  refine dk_callVv X v_Reader_readOne [] (hG.2.2.2.2.2.2 S) 12 (oC_Reader g ad T S) rfl rfl m_Reader_88 rfl rfl ⟨rfl, rfl, by show d + 16 + 1 ≤ d + 1 + 16; omega, by show 8 + (1 + 11) + (40 * d + 400) ≤ 40 * (d + 1) + 400; omega, Nat.le_refl _, Nat.le_refl _⟩ (Nat.le_of_ble_eq_true rfl) d_Reader_readTerm_1 hF (fun S9 hF => ?_)
  refine dk_iconst (v := 0) X (by decide) d_Reader_readTerm_4 ?_
  refine dk_istore_n (k := 1) (i := 1) (lv' := [(1, .int (0 : Int32)), (0, .ref (ad 12))]) X rfl (by decide) rfl d_Reader_readTerm_5 ?_
  exact dk_sub [1, 0] rfl (kb_Reader_readTerm_6 (n := n) hG X hR  n (0 : Int32) S9 hF)
def H_Reader_readTerm (n T : Nat) (G : Nat → dk_S → Option dk_S) (S : dk_S) : Option dk_S := B_Reader_readTerm_0 n T G S
theorem cg_Reader_readTerm (l : Launch) (g : dk_G) (ad : Nat → Nat) (T n d : Nat) (G : Nat → dk_S → Option dk_S) (hG : dk_GH l g ad T d G) (S : dk_S) : dk_Mv l g y_Reader_readTerm b_Reader_readTerm 2 (rm_rec (d + 1)) none [.ref (ad 12)] (wC g ad T) S (H_Reader_readTerm n T G S) := dk_enterv (by decide) rfl (Nat.le_of_ble_eq_true rfl) (fun p e s m args below meth c A Q res hF X hR => kb_Reader_readTerm_0 (n := n) hG X hR hF)
def B_Reader_readOne_16 (n T : Nat) (G : Nat → dk_S → Option dk_S)   (S : dk_S) : Option dk_S :=
  dk_cv (F_Reader_put n T (S 111 0) S) fun S1 => dk_cv (F_Reader_scan n T S1) fun S3 => some S3
set_option maxRecDepth 20000 in
theorem kb_Reader_readOne_16 {p : Program} {l : Launch} {e : Env} {s : State} {m : MethodId} {args : Array Value} {below : List Frame} {meth : Method} {c : Code} {g : dk_G} {A : Nat → Prop} {Q : State → Prop} {ad : Nat → Nat} {T : Nat} {n : Nat} {res : dk_S} {d : Nat} {G : Nat → dk_S → Option dk_S} (hG : dk_GH l g ad T d G) (X : dk_X p s m args meth c b_Reader_readOne 1 R_Reader (none) g A) (hR : dk_Rv p l e (rm_rec (d + 1)) s m args below meth c g A Q 1 b_Reader_readOne (none) (wC g ad T) res)   {S : dk_S}  (hF : B_Reader_readOne_16 n T G   S = some res) : dk_J p l e (rm_rec (d + 1)) s m args below meth c g A Q 1 0 0 16 [(0, .ref (ad 12))] [] (wC g ad T S) := by
  unfold B_Reader_readOne_16 at hF
  refine dk_aload_n (k := 0) (i := 0) X 0 rfl rfl d_Reader_readOne_16 ?_
  refine dk_aload_n (k := 0) (i := 0) X 0 rfl rfl d_Reader_readOne_17 ?_
  refine dk_get X q_Reader 12 8 (by decide) (oC_Reader g ad T S) rfl f_Reader_91 d_Reader_readOne_18 ?_
  refine dk_callVv X v_Reader_put [.int (S 111 0)] (c_Reader_put l g ad T n (S 111 0) S) 12 (oC_Reader g ad T S) rfl rfl m_Reader_66 rfl rfl ⟨rfl, rfl, by show 0 + 1 ≤ d + 1 + 16; omega, by show 8 + (2 + 11) + 0 ≤ 40 * (d + 1) + 400; omega, Nat.le_refl _, Nat.le_refl _⟩ (Nat.le_of_ble_eq_true rfl) d_Reader_readOne_21 hF (fun S1 hF => ?_)
  refine dk_aload_n (k := 0) (i := 0) X 0 rfl rfl d_Reader_readOne_24 ?_
  refine dk_callVv X v_Reader_scan [] (c_Reader_scan l g ad T n S1) 12 (oC_Reader g ad T S1) rfl rfl m_Reader_35 rfl rfl ⟨rfl, rfl, by show 6 + 1 ≤ d + 1 + 16; omega, by show 8 + (2 + 11) + 132 ≤ 40 * (d + 1) + 400; omega, Nat.le_refl _, Nat.le_refl _⟩ (Nat.le_of_ble_eq_true rfl) d_Reader_readOne_25 hF (fun S3 hF => ?_)
  refine dk_goto (tgt := 113) X (by decide) d_Reader_readOne_28 ?_
  exact dk_retv hR hF d_Reader_readOne_113
def B_Reader_readOne_0 (n T : Nat) (G : Nat → dk_S → Option dk_S)   (S : dk_S) : Option dk_S :=
  dk_c (F_Reader_sees n T (2 : Int32) S) fun r6 S5 => if ¬ r6 = 0 then (B_Reader_readOne_16 n T G  S5) else (dk_c (F_Reader_sees n T (3 : Int32) S5) fun r8 S7 => if r8 = 0 then (dk_c (F_Reader_sees n T (45 : Int32) S7) fun r10 S9 => if r10 = 0 then (dk_c (F_Reader_sees n T (40 : Int32) S9) fun r12 S11 => if r12 = 0 then (dk_cv (F_Reader_fail n T S11) fun S13 => some S13) else (dk_c (F_Reader_opens n T S11) fun r16 S15 => if r16 = 0 then (some S15) else (dk_cv (G 0 S15) fun S17 => dk_cv (F_Reader_expect n T (41 : Int32) S17) fun S19 => dk_p S19 113 ((S19 113 0) - (1 : Int32)) fun S21 => some S21))) else (dk_c (F_Reader_opens n T S9) fun r23 S22 => if r23 = 0 then (some S22) else (dk_cv (G 6 S22) fun S24 => dk_cv (F_Reader_put n T (-7 : Int32) S24) fun S26 => dk_p S26 113 ((S26 113 0) - (1 : Int32)) fun S28 => some S28))) else (B_Reader_readOne_16 n T G  S7))
set_option maxRecDepth 20000 in
theorem kb_Reader_readOne_0 {p : Program} {l : Launch} {e : Env} {s : State} {m : MethodId} {args : Array Value} {below : List Frame} {meth : Method} {c : Code} {g : dk_G} {A : Nat → Prop} {Q : State → Prop} {ad : Nat → Nat} {T : Nat} {n : Nat} {res : dk_S} {d : Nat} {G : Nat → dk_S → Option dk_S} (hG : dk_GH l g ad T d G) (X : dk_X p s m args meth c b_Reader_readOne 1 R_Reader (none) g A) (hR : dk_Rv p l e (rm_rec (d + 1)) s m args below meth c g A Q 1 b_Reader_readOne (none) (wC g ad T) res)   {S : dk_S}  (hF : B_Reader_readOne_0 n T G   S = some res) : dk_J p l e (rm_rec (d + 1)) s m args below meth c g A Q 1 0 0 0 [(0, .ref (ad 12))] [] (wC g ad T S) := by
  unfold B_Reader_readOne_0 at hF
  refine dk_aload_n (k := 0) (i := 0) X 0 rfl rfl d_Reader_readOne_0 ?_
  refine dk_iconst (v := 2) X (by decide) d_Reader_readOne_1 ?_
  refine dk_callVi X v_Reader_sees [.int (2 : Int32)] (c_Reader_sees l g ad T n (2 : Int32) S) 12 (oC_Reader g ad T S) rfl rfl m_Reader_62 rfl rfl ⟨rfl, rfl, by show 0 + 1 ≤ d + 1 + 16; omega, by show 8 + (2 + 11) + 0 ≤ 40 * (d + 1) + 400; omega, Nat.le_refl _, Nat.le_refl _⟩ (Nat.le_of_ble_eq_true rfl) d_Reader_readOne_2 hF (fun r6 S5 hF => ?_)
  refine dk_if_ne (tgt := 16) X (by decide) d_Reader_readOne_5 hF (fun hF => ?_) (fun hF => ?_)
  · exact (kb_Reader_readOne_16 (n := n) hG X hR   hF)
  · refine dk_aload_n (k := 0) (i := 0) X 0 rfl rfl d_Reader_readOne_8 ?_
    refine dk_iconst (v := 3) X (by decide) d_Reader_readOne_9 ?_
    refine dk_callVi X v_Reader_sees [.int (3 : Int32)] (c_Reader_sees l g ad T n (3 : Int32) S5) 12 (oC_Reader g ad T S5) rfl rfl m_Reader_62 rfl rfl ⟨rfl, rfl, by show 0 + 1 ≤ d + 1 + 16; omega, by show 8 + (2 + 11) + 0 ≤ 40 * (d + 1) + 400; omega, Nat.le_refl _, Nat.le_refl _⟩ (Nat.le_of_ble_eq_true rfl) d_Reader_readOne_10 hF (fun r8 S7 hF => ?_)
    refine dk_if_eq (tgt := 31) X (by decide) d_Reader_readOne_13 hF (fun hF => ?_) (fun hF => ?_)
    · refine dk_aload_n (k := 0) (i := 0) X 0 rfl rfl d_Reader_readOne_31 ?_
      refine dk_bipush (v := 45) X (by decide) d_Reader_readOne_32 ?_
      refine dk_callVi X v_Reader_sees [.int (45 : Int32)] (c_Reader_sees l g ad T n (45 : Int32) S7) 12 (oC_Reader g ad T S7) rfl rfl m_Reader_62 rfl rfl ⟨rfl, rfl, by show 0 + 1 ≤ d + 1 + 16; omega, by show 8 + (2 + 11) + 0 ≤ 40 * (d + 1) + 400; omega, Nat.le_refl _, Nat.le_refl _⟩ (Nat.le_of_ble_eq_true rfl) d_Reader_readOne_34 hF (fun r10 S9 hF => ?_)
      refine dk_if_eq (tgt := 70) X (by decide) d_Reader_readOne_37 hF (fun hF => ?_) (fun hF => ?_)
      · refine dk_aload_n (k := 0) (i := 0) X 0 rfl rfl d_Reader_readOne_70 ?_
        refine dk_bipush (v := 40) X (by decide) d_Reader_readOne_71 ?_
        refine dk_callVi X v_Reader_sees [.int (40 : Int32)] (c_Reader_sees l g ad T n (40 : Int32) S9) 12 (oC_Reader g ad T S9) rfl rfl m_Reader_62 rfl rfl ⟨rfl, rfl, by show 0 + 1 ≤ d + 1 + 16; omega, by show 8 + (2 + 11) + 0 ≤ 40 * (d + 1) + 400; omega, Nat.le_refl _, Nat.le_refl _⟩ (Nat.le_of_ble_eq_true rfl) d_Reader_readOne_73 hF (fun r12 S11 hF => ?_)
        refine dk_if_eq (tgt := 109) X (by decide) d_Reader_readOne_76 hF (fun hF => ?_) (fun hF => ?_)
        · refine dk_aload_n (k := 0) (i := 0) X 0 rfl rfl d_Reader_readOne_109 ?_
          refine dk_callVv X v_Reader_fail [] (c_Reader_fail l g ad T n S11) 12 (oC_Reader g ad T S11) rfl rfl m_Reader_94 rfl rfl ⟨rfl, rfl, by show 0 + 1 ≤ d + 1 + 16; omega, by show 8 + (1 + 11) + 0 ≤ 40 * (d + 1) + 400; omega, Nat.le_refl _, Nat.le_refl _⟩ (Nat.le_of_ble_eq_true rfl) d_Reader_readOne_110 hF (fun S13 hF => ?_)
          exact dk_retv hR hF d_Reader_readOne_113
        · refine dk_aload_n (k := 0) (i := 0) X 0 rfl rfl d_Reader_readOne_79 ?_
          refine dk_callVi X v_Reader_opens [] (c_Reader_opens l g ad T n S11) 12 (oC_Reader g ad T S11) rfl rfl m_Reader_75 rfl rfl ⟨rfl, rfl, by show 7 + 1 ≤ d + 1 + 16; omega, by show 8 + (1 + 11) + 153 ≤ 40 * (d + 1) + 400; omega, Nat.le_refl _, Nat.le_refl _⟩ (Nat.le_of_ble_eq_true rfl) d_Reader_readOne_80 hF (fun r16 S15 hF => ?_)
          refine dk_if_eq (tgt := 113) X (by decide) d_Reader_readOne_83 hF (fun hF => ?_) (fun hF => ?_)
          · exact dk_retv hR hF d_Reader_readOne_113
          · refine dk_aload_n (k := 0) (i := 0) X 0 rfl rfl d_Reader_readOne_86 ?_
            refine dk_callVv X v_Reader_readEither [] (hG.1 S15) 12 (oC_Reader g ad T S15) rfl rfl m_Reader_42 rfl rfl ⟨rfl, rfl, by show d + 16 + 1 ≤ d + 1 + 16; omega, by show 8 + (2 + 11) + (40 * d + 400) ≤ 40 * (d + 1) + 400; omega, Nat.le_refl _, Nat.le_refl _⟩ (Nat.le_of_ble_eq_true rfl) d_Reader_readOne_87 hF (fun S17 hF => ?_)
            refine dk_aload_n (k := 0) (i := 0) X 0 rfl rfl d_Reader_readOne_90 ?_
            refine dk_bipush (v := 41) X (by decide) d_Reader_readOne_91 ?_
            refine dk_callVv X v_Reader_expect [.int (41 : Int32)] (c_Reader_expect l g ad T n (41 : Int32) S17) 12 (oC_Reader g ad T S17) rfl rfl m_Reader_38 rfl rfl ⟨rfl, rfl, by show 7 + 1 ≤ d + 1 + 16; omega, by show 8 + (2 + 11) + 153 ≤ 40 * (d + 1) + 400; omega, Nat.le_refl _, Nat.le_refl _⟩ (Nat.le_of_ble_eq_true rfl) d_Reader_readOne_93 hF (fun S19 hF => ?_)
            refine dk_aload_n (k := 0) (i := 0) X 0 rfl rfl d_Reader_readOne_96 ?_
            refine dk_dup X rfl d_Reader_readOne_97 ?_
            refine dk_get X q_Reader 12 10 (by decide) (oC_Reader g ad T S19) rfl f_Reader_32 d_Reader_readOne_98 ?_
            refine dk_iconst (v := 1) X (by decide) d_Reader_readOne_101 ?_
            refine dk_isub X d_Reader_readOne_102 ?_
            refine dk_puti X q_Reader 12 10 (by decide) (oC_Reader g ad T S19) f_Reader_32 rfl rfl (Nat.le_of_ble_eq_true rfl) (sC_Reader_open g ad T S19 _) d_Reader_readOne_103 hF (fun S21 hF => ?_)
            refine dk_goto (tgt := 113) X (by decide) d_Reader_readOne_106 ?_
            exact dk_retv hR hF d_Reader_readOne_113
      · refine dk_aload_n (k := 0) (i := 0) X 0 rfl rfl d_Reader_readOne_40 ?_
        refine dk_callVi X v_Reader_opens [] (c_Reader_opens l g ad T n S9) 12 (oC_Reader g ad T S9) rfl rfl m_Reader_75 rfl rfl ⟨rfl, rfl, by show 7 + 1 ≤ d + 1 + 16; omega, by show 8 + (1 + 11) + 153 ≤ 40 * (d + 1) + 400; omega, Nat.le_refl _, Nat.le_refl _⟩ (Nat.le_of_ble_eq_true rfl) d_Reader_readOne_41 hF (fun r23 S22 hF => ?_)
        refine dk_if_eq (tgt := 113) X (by decide) d_Reader_readOne_44 hF (fun hF => ?_) (fun hF => ?_)
        · exact dk_retv hR hF d_Reader_readOne_113
        · refine dk_aload_n (k := 0) (i := 0) X 0 rfl rfl d_Reader_readOne_47 ?_
          refine dk_callVv X v_Reader_readOne [] (hG.2.2.2.2.2.2 S22) 12 (oC_Reader g ad T S22) rfl rfl m_Reader_88 rfl rfl ⟨rfl, rfl, by show d + 16 + 1 ≤ d + 1 + 16; omega, by show 8 + (1 + 11) + (40 * d + 400) ≤ 40 * (d + 1) + 400; omega, Nat.le_refl _, Nat.le_refl _⟩ (Nat.le_of_ble_eq_true rfl) d_Reader_readOne_48 hF (fun S24 hF => ?_)
          refine dk_aload_n (k := 0) (i := 0) X 0 rfl rfl d_Reader_readOne_51 ?_
          refine dk_bipush (v := -7) X (by decide) d_Reader_readOne_52 ?_
          refine dk_callVv X v_Reader_put [.int (-7 : Int32)] (c_Reader_put l g ad T n (-7 : Int32) S24) 12 (oC_Reader g ad T S24) rfl rfl m_Reader_66 rfl rfl ⟨rfl, rfl, by show 0 + 1 ≤ d + 1 + 16; omega, by show 8 + (2 + 11) + 0 ≤ 40 * (d + 1) + 400; omega, Nat.le_refl _, Nat.le_refl _⟩ (Nat.le_of_ble_eq_true rfl) d_Reader_readOne_54 hF (fun S26 hF => ?_)
          refine dk_aload_n (k := 0) (i := 0) X 0 rfl rfl d_Reader_readOne_57 ?_
          refine dk_dup X rfl d_Reader_readOne_58 ?_
          refine dk_get X q_Reader 12 10 (by decide) (oC_Reader g ad T S26) rfl f_Reader_32 d_Reader_readOne_59 ?_
          refine dk_iconst (v := 1) X (by decide) d_Reader_readOne_62 ?_
          refine dk_isub X d_Reader_readOne_63 ?_
          refine dk_puti X q_Reader 12 10 (by decide) (oC_Reader g ad T S26) f_Reader_32 rfl rfl (Nat.le_of_ble_eq_true rfl) (sC_Reader_open g ad T S26 _) d_Reader_readOne_64 hF (fun S28 hF => ?_)
          refine dk_goto (tgt := 113) X (by decide) d_Reader_readOne_67 ?_
          exact dk_retv hR hF d_Reader_readOne_113
    · exact (kb_Reader_readOne_16 (n := n) hG X hR   hF)
def H_Reader_readOne (n T : Nat) (G : Nat → dk_S → Option dk_S) (S : dk_S) : Option dk_S := B_Reader_readOne_0 n T G S
theorem cg_Reader_readOne (l : Launch) (g : dk_G) (ad : Nat → Nat) (T n d : Nat) (G : Nat → dk_S → Option dk_S) (hG : dk_GH l g ad T d G) (S : dk_S) : dk_Mv l g y_Reader_readOne b_Reader_readOne 1 (rm_rec (d + 1)) none [.ref (ad 12)] (wC g ad T) S (H_Reader_readOne n T G S) := dk_enterv (by decide) rfl (Nat.le_of_ble_eq_true rfl) (fun p e s m args below meth c A Q res hF X hR => kb_Reader_readOne_0 (n := n) hG X hR hF)
theorem dk_Mvn {l : Launch} {g : dk_G} {y : MethodName} {b : ByteArray} {nL : Nat} {rm : Room} {ret : Option FieldType} {av : List Value} {wd : dk_S → va_W} {S : dk_S} : dk_Mv l g y b nL rm ret av wd S none := fun sz res h => by cases h
def G_Reader (n T : Nat) : Nat → Nat → dk_S → Option dk_S
  | 0 => fun _ _ => none
  | d + 1 => fun i S => match i with | 0 => H_Reader_readEither n T (G_Reader n T d) S | 1 => H_Reader_readBoth n T (G_Reader n T d) S | 2 => H_Reader_readNot n T (G_Reader n T d) S | 3 => H_Reader_readCompared n T (G_Reader n T d) S | 4 => H_Reader_readSum n T (G_Reader n T d) S | 5 => H_Reader_readTerm n T (G_Reader n T d) S | 6 => H_Reader_readOne n T (G_Reader n T d) S | _ => none
theorem c_Reader_rec (l : Launch) (g : dk_G) (ad : Nat → Nat) (T n : Nat) : ∀ d : Nat, dk_GH l g ad T d (G_Reader n T d)
  | 0 => ⟨fun _ => dk_Mvn, fun _ => dk_Mvn, fun _ => dk_Mvn, fun _ => dk_Mvn, fun _ => dk_Mvn, fun _ => dk_Mvn, fun _ => dk_Mvn⟩
  | d + 1 => ⟨cg_Reader_readEither l g ad T n d _ (c_Reader_rec l g ad T n d), cg_Reader_readBoth l g ad T n d _ (c_Reader_rec l g ad T n d), cg_Reader_readNot l g ad T n d _ (c_Reader_rec l g ad T n d), cg_Reader_readCompared l g ad T n d _ (c_Reader_rec l g ad T n d), cg_Reader_readSum l g ad T n d _ (c_Reader_rec l g ad T n d), cg_Reader_readTerm l g ad T n d _ (c_Reader_rec l g ad T n d), cg_Reader_readOne l g ad T n d _ (c_Reader_rec l g ad T n d)⟩
abbrev rm_Reader_readEither : Room := rm_rec 64
def F_Reader_readEither (n T : Nat) (S : dk_S) : Option dk_S := G_Reader n T 64 0 S
theorem c_Reader_readEither (l : Launch) (g : dk_G) (ad : Nat → Nat) (T n : Nat) (S : dk_S) : dk_Mv l g y_Reader_readEither b_Reader_readEither 2 rm_Reader_readEither none [.ref (ad 12)] (wC g ad T) S (F_Reader_readEither n T S) := (c_Reader_rec l g ad T n 64).1 S
abbrev b_Reader_readText : ByteArray := prog_5_method_3_code
def y_Reader_readText : MethodName := ⟨R_Reader, "readText", "()V"⟩
theorem d_Reader_readText_0 : decode b_Reader_readText 0 = .ok (.aload_n 0, 1) := by decide +kernel
theorem d_Reader_readText_1 : decode b_Reader_readText 1 = .ok (.iconst (-1), 1) := by decide +kernel
theorem d_Reader_readText_2 : decode b_Reader_readText 2 = .ok (.putfield 23, 3) := by decide +kernel
theorem d_Reader_readText_5 : decode b_Reader_readText 5 = .ok (.aload_n 0, 1) := by decide +kernel
theorem d_Reader_readText_6 : decode b_Reader_readText 6 = .ok (.iconst 0, 1) := by decide +kernel
theorem d_Reader_readText_7 : decode b_Reader_readText 7 = .ok (.putfield 26, 3) := by decide +kernel
theorem d_Reader_readText_10 : decode b_Reader_readText 10 = .ok (.aload_n 0, 1) := by decide +kernel
theorem d_Reader_readText_11 : decode b_Reader_readText 11 = .ok (.iconst 0, 1) := by decide +kernel
theorem d_Reader_readText_12 : decode b_Reader_readText 12 = .ok (.putfield 29, 3) := by decide +kernel
theorem d_Reader_readText_15 : decode b_Reader_readText 15 = .ok (.aload_n 0, 1) := by decide +kernel
theorem d_Reader_readText_16 : decode b_Reader_readText 16 = .ok (.iconst 0, 1) := by decide +kernel
theorem d_Reader_readText_17 : decode b_Reader_readText 17 = .ok (.putfield 32, 3) := by decide +kernel
theorem d_Reader_readText_20 : decode b_Reader_readText 20 = .ok (.aload_n 0, 1) := by decide +kernel
theorem d_Reader_readText_21 : decode b_Reader_readText 21 = .ok (.invokevirtual 35, 3) := by decide +kernel
theorem d_Reader_readText_24 : decode b_Reader_readText 24 = .ok (.aload_n 0, 1) := by decide +kernel
theorem d_Reader_readText_25 : decode b_Reader_readText 25 = .ok (.iconst 4, 1) := by decide +kernel
theorem d_Reader_readText_26 : decode b_Reader_readText 26 = .ok (.invokevirtual 38, 3) := by decide +kernel
theorem d_Reader_readText_29 : decode b_Reader_readText 29 = .ok (.aload_n 0, 1) := by decide +kernel
theorem d_Reader_readText_30 : decode b_Reader_readText 30 = .ok (.invokevirtual 42, 3) := by decide +kernel
theorem d_Reader_readText_33 : decode b_Reader_readText 33 = .ok (.aload_n 0, 1) := by decide +kernel
theorem d_Reader_readText_34 : decode b_Reader_readText 34 = .ok (.bipush 59, 2) := by decide +kernel
theorem d_Reader_readText_36 : decode b_Reader_readText 36 = .ok (.invokevirtual 38, 3) := by decide +kernel
theorem d_Reader_readText_39 : decode b_Reader_readText 39 = .ok (.aload_n 0, 1) := by decide +kernel
theorem d_Reader_readText_40 : decode b_Reader_readText 40 = .ok (.aload_n 0, 1) := by decide +kernel
theorem d_Reader_readText_41 : decode b_Reader_readText 41 = .ok (.getfield 26, 3) := by decide +kernel
theorem d_Reader_readText_44 : decode b_Reader_readText 44 = .ok (.putfield 45, 3) := by decide +kernel
theorem d_Reader_readText_47 : decode b_Reader_readText 47 = .ok (.aload_n 0, 1) := by decide +kernel
theorem d_Reader_readText_48 : decode b_Reader_readText 48 = .ok (.iconst 5, 1) := by decide +kernel
theorem d_Reader_readText_49 : decode b_Reader_readText 49 = .ok (.invokevirtual 38, 3) := by decide +kernel
theorem d_Reader_readText_52 : decode b_Reader_readText 52 = .ok (.aload_n 0, 1) := by decide +kernel
theorem d_Reader_readText_53 : decode b_Reader_readText 53 = .ok (.invokevirtual 42, 3) := by decide +kernel
theorem d_Reader_readText_56 : decode b_Reader_readText 56 = .ok (.aload_n 0, 1) := by decide +kernel
theorem d_Reader_readText_57 : decode b_Reader_readText 57 = .ok (.bipush 59, 2) := by decide +kernel
theorem d_Reader_readText_59 : decode b_Reader_readText 59 = .ok (.invokevirtual 38, 3) := by decide +kernel
theorem d_Reader_readText_62 : decode b_Reader_readText 62 = .ok (.aload_n 0, 1) := by decide +kernel
theorem d_Reader_readText_63 : decode b_Reader_readText 63 = .ok (.iconst 0, 1) := by decide +kernel
theorem d_Reader_readText_64 : decode b_Reader_readText 64 = .ok (.invokevirtual 38, 3) := by decide +kernel
theorem d_Reader_readText_67 : decode b_Reader_readText 67 = .ok (.return_, 1) := by decide +kernel
theorem v_Reader_readText : dk_Yv y_Reader_readText b_Reader_readText 1 (none) 0 := ⟨dk_in (List.mem_of_getElem? (i := 486) (by decide +kernel)) rfl, dk_in (List.mem_of_getElem? (i := 487) (by decide +kernel)) rfl, dk_in (List.mem_of_getElem? (i := 69) (by decide +kernel)) rfl, dk_in (List.mem_of_getElem? (i := 488) (by decide +kernel)) rfl, by decide +kernel, by decide +kernel, by decide +kernel⟩
abbrev rm_Reader_readText : Room := { frames := 81, cells := 0, slots := 0, locals := 2981 }
theorem f_Reader_45 : Cond.fieldLink R_Reader 45 (T_Reader 5).1 (T_Reader 5).2.1 (T_Reader 5).2.2.1 ∈ dk_tb := dk_in (List.mem_of_getElem? (i := 181) (by decide +kernel)) rfl
def B_Reader_readText_0 (n T : Nat)   (S : dk_S) : Option dk_S :=
  dk_p S 106 (-1 : Int32) fun S1 => dk_p S1 107 (0 : Int32) fun S2 => dk_p S2 112 (0 : Int32) fun S3 => dk_p S3 113 (0 : Int32) fun S4 => dk_cv (F_Reader_scan n T S4) fun S5 => dk_cv (F_Reader_expect n T (4 : Int32) S5) fun S7 => dk_cv (F_Reader_readEither n T S7) fun S9 => dk_cv (F_Reader_expect n T (59 : Int32) S9) fun S11 => dk_p S11 108 (S11 107 0) fun S13 => dk_cv (F_Reader_expect n T (5 : Int32) S13) fun S14 => dk_cv (F_Reader_readEither n T S14) fun S16 => dk_cv (F_Reader_expect n T (59 : Int32) S16) fun S18 => dk_cv (F_Reader_expect n T (0 : Int32) S18) fun S20 => some S20
set_option maxRecDepth 20000 in
theorem kb_Reader_readText_0 {p : Program} {l : Launch} {e : Env} {s : State} {m : MethodId} {args : Array Value} {below : List Frame} {meth : Method} {c : Code} {g : dk_G} {A : Nat → Prop} {Q : State → Prop} {ad : Nat → Nat} {T : Nat} {n : Nat} {res : dk_S} (X : dk_X p s m args meth c b_Reader_readText 1 R_Reader (none) g A) (hR : dk_Rv p l e rm_Reader_readText s m args below meth c g A Q 1 b_Reader_readText (none) (wC g ad T) res)   {S : dk_S}  (hF : B_Reader_readText_0 n T   S = some res) : dk_J p l e rm_Reader_readText s m args below meth c g A Q 1 0 0 0 [(0, .ref (ad 12))] [] (wC g ad T S) := by
  unfold B_Reader_readText_0 at hF
  refine dk_aload_n (k := 0) (i := 0) X 0 rfl rfl d_Reader_readText_0 ?_
  refine dk_iconst (v := -1) X (by decide) d_Reader_readText_1 ?_
  refine dk_puti X q_Reader 12 2 (by decide) (oC_Reader g ad T S) f_Reader_23 rfl rfl (Nat.le_of_ble_eq_true rfl) (sC_Reader_fault g ad T S _) d_Reader_readText_2 hF (fun S1 hF => ?_)
  refine dk_aload_n (k := 0) (i := 0) X 0 rfl rfl d_Reader_readText_5 ?_
  refine dk_iconst (v := 0) X (by decide) d_Reader_readText_6 ?_
  refine dk_puti X q_Reader 12 4 (by decide) (oC_Reader g ad T S1) f_Reader_26 rfl rfl (Nat.le_of_ble_eq_true rfl) (sC_Reader_codeSize g ad T S1 _) d_Reader_readText_7 hF (fun S2 hF => ?_)
  refine dk_aload_n (k := 0) (i := 0) X 0 rfl rfl d_Reader_readText_10 ?_
  refine dk_iconst (v := 0) X (by decide) d_Reader_readText_11 ?_
  refine dk_puti X q_Reader 12 9 (by decide) (oC_Reader g ad T S2) f_Reader_29 rfl rfl (Nat.le_of_ble_eq_true rfl) (sC_Reader_next g ad T S2 _) d_Reader_readText_12 hF (fun S3 hF => ?_)
  refine dk_aload_n (k := 0) (i := 0) X 0 rfl rfl d_Reader_readText_15 ?_
  refine dk_iconst (v := 0) X (by decide) d_Reader_readText_16 ?_
  refine dk_puti X q_Reader 12 10 (by decide) (oC_Reader g ad T S3) f_Reader_32 rfl rfl (Nat.le_of_ble_eq_true rfl) (sC_Reader_open g ad T S3 _) d_Reader_readText_17 hF (fun S4 hF => ?_)
  refine dk_aload_n (k := 0) (i := 0) X 0 rfl rfl d_Reader_readText_20 ?_
  refine dk_callVv X v_Reader_scan [] (c_Reader_scan l g ad T n S4) 12 (oC_Reader g ad T S4) rfl rfl m_Reader_35 rfl rfl ⟨rfl, rfl, Nat.le_of_ble_eq_true rfl, Nat.le_of_ble_eq_true rfl, Nat.le_refl _, Nat.le_refl _⟩ (Nat.le_of_ble_eq_true rfl) d_Reader_readText_21 hF (fun S5 hF => ?_)
  refine dk_aload_n (k := 0) (i := 0) X 0 rfl rfl d_Reader_readText_24 ?_
  refine dk_iconst (v := 4) X (by decide) d_Reader_readText_25 ?_
  refine dk_callVv X v_Reader_expect [.int (4 : Int32)] (c_Reader_expect l g ad T n (4 : Int32) S5) 12 (oC_Reader g ad T S5) rfl rfl m_Reader_38 rfl rfl ⟨rfl, rfl, Nat.le_of_ble_eq_true rfl, Nat.le_of_ble_eq_true rfl, Nat.le_refl _, Nat.le_refl _⟩ (Nat.le_of_ble_eq_true rfl) d_Reader_readText_26 hF (fun S7 hF => ?_)
  refine dk_aload_n (k := 0) (i := 0) X 0 rfl rfl d_Reader_readText_29 ?_
  refine dk_callVv X v_Reader_readEither [] (c_Reader_readEither l g ad T n S7) 12 (oC_Reader g ad T S7) rfl rfl m_Reader_42 rfl rfl ⟨rfl, rfl, Nat.le_of_ble_eq_true rfl, Nat.le_of_ble_eq_true rfl, Nat.le_refl _, Nat.le_refl _⟩ (Nat.le_of_ble_eq_true rfl) d_Reader_readText_30 hF (fun S9 hF => ?_)
  refine dk_aload_n (k := 0) (i := 0) X 0 rfl rfl d_Reader_readText_33 ?_
  refine dk_bipush (v := 59) X (by decide) d_Reader_readText_34 ?_
  refine dk_callVv X v_Reader_expect [.int (59 : Int32)] (c_Reader_expect l g ad T n (59 : Int32) S9) 12 (oC_Reader g ad T S9) rfl rfl m_Reader_38 rfl rfl ⟨rfl, rfl, Nat.le_of_ble_eq_true rfl, Nat.le_of_ble_eq_true rfl, Nat.le_refl _, Nat.le_refl _⟩ (Nat.le_of_ble_eq_true rfl) d_Reader_readText_36 hF (fun S11 hF => ?_)
  refine dk_aload_n (k := 0) (i := 0) X 0 rfl rfl d_Reader_readText_39 ?_
  refine dk_aload_n (k := 0) (i := 0) X 0 rfl rfl d_Reader_readText_40 ?_
  refine dk_get X q_Reader 12 4 (by decide) (oC_Reader g ad T S11) rfl f_Reader_26 d_Reader_readText_41 ?_
  refine dk_puti X q_Reader 12 5 (by decide) (oC_Reader g ad T S11) f_Reader_45 rfl rfl (Nat.le_of_ble_eq_true rfl) (sC_Reader_worthSize g ad T S11 _) d_Reader_readText_44 hF (fun S13 hF => ?_)
  refine dk_aload_n (k := 0) (i := 0) X 0 rfl rfl d_Reader_readText_47 ?_
  refine dk_iconst (v := 5) X (by decide) d_Reader_readText_48 ?_
  refine dk_callVv X v_Reader_expect [.int (5 : Int32)] (c_Reader_expect l g ad T n (5 : Int32) S13) 12 (oC_Reader g ad T S13) rfl rfl m_Reader_38 rfl rfl ⟨rfl, rfl, Nat.le_of_ble_eq_true rfl, Nat.le_of_ble_eq_true rfl, Nat.le_refl _, Nat.le_refl _⟩ (Nat.le_of_ble_eq_true rfl) d_Reader_readText_49 hF (fun S14 hF => ?_)
  refine dk_aload_n (k := 0) (i := 0) X 0 rfl rfl d_Reader_readText_52 ?_
  refine dk_callVv X v_Reader_readEither [] (c_Reader_readEither l g ad T n S14) 12 (oC_Reader g ad T S14) rfl rfl m_Reader_42 rfl rfl ⟨rfl, rfl, Nat.le_of_ble_eq_true rfl, Nat.le_of_ble_eq_true rfl, Nat.le_refl _, Nat.le_refl _⟩ (Nat.le_of_ble_eq_true rfl) d_Reader_readText_53 hF (fun S16 hF => ?_)
  refine dk_aload_n (k := 0) (i := 0) X 0 rfl rfl d_Reader_readText_56 ?_
  refine dk_bipush (v := 59) X (by decide) d_Reader_readText_57 ?_
  refine dk_callVv X v_Reader_expect [.int (59 : Int32)] (c_Reader_expect l g ad T n (59 : Int32) S16) 12 (oC_Reader g ad T S16) rfl rfl m_Reader_38 rfl rfl ⟨rfl, rfl, Nat.le_of_ble_eq_true rfl, Nat.le_of_ble_eq_true rfl, Nat.le_refl _, Nat.le_refl _⟩ (Nat.le_of_ble_eq_true rfl) d_Reader_readText_59 hF (fun S18 hF => ?_)
  refine dk_aload_n (k := 0) (i := 0) X 0 rfl rfl d_Reader_readText_62 ?_
  refine dk_iconst (v := 0) X (by decide) d_Reader_readText_63 ?_
  refine dk_callVv X v_Reader_expect [.int (0 : Int32)] (c_Reader_expect l g ad T n (0 : Int32) S18) 12 (oC_Reader g ad T S18) rfl rfl m_Reader_38 rfl rfl ⟨rfl, rfl, Nat.le_of_ble_eq_true rfl, Nat.le_of_ble_eq_true rfl, Nat.le_refl _, Nat.le_refl _⟩ (Nat.le_of_ble_eq_true rfl) d_Reader_readText_64 hF (fun S20 hF => ?_)
  exact dk_retv hR hF d_Reader_readText_67
def F_Reader_readText (n T : Nat)  (S : dk_S) : Option dk_S := B_Reader_readText_0 n T  S
theorem c_Reader_readText (l : Launch) (g : dk_G) (ad : Nat → Nat) (T n : Nat)   (S : dk_S) : dk_Mv l g y_Reader_readText b_Reader_readText 1 rm_Reader_readText (none) [.ref (ad 12)] (wC g ad T) S (F_Reader_readText n T  S) := dk_enterv (by decide) rfl (Nat.le_of_ble_eq_true rfl) (fun p e s m args below meth c A Q res hF X hR => (kb_Reader_readText_0 (n := n) X hR  hF))
