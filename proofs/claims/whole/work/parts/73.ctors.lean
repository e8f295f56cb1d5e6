/-! MACHINE: constructors of the class's parts -/
abbrev b_Land_init : ByteArray := prog_4_method_1_code
def y_Land_init : MethodName := ⟨R_Land, "<init>", "()V"⟩
abbrev b_Diary_init : ByteArray := prog_2_method_1_code
def y_Diary_init : MethodName := ⟨R_Diary, "<init>", "()V"⟩
abbrev b_Reader_init : ByteArray := prog_5_method_1_code
def y_Reader_init : MethodName := ⟨R_Reader, "<init>", "()V"⟩
abbrev b_Scales_init : ByteArray := prog_6_method_1_code
def y_Scales_init : MethodName := ⟨R_Scales, "<init>", "(LWhoseHare$Text;)V"⟩
abbrev b_Scene_init : ByteArray := prog_7_method_1_code
def y_Scene_init : MethodName := ⟨R_Scene, "<init>", "(LWhoseHare$Land;LWhoseHare$Diary;LWhoseHare$Scales;)V"⟩
abbrev b_Sheet_init : ByteArray := prog_8_method_1_code
def y_Sheet_init : MethodName := ⟨R_Sheet, "<init>", "()V"⟩
abbrev b_Image_init : ByteArray := prog_3_method_1_code
def y_Image_init : MethodName := ⟨R_Image, "<init>", "()V"⟩
theorem v_Land_init : dk_Yi y_Land_init b_Land_init 1 0 := ⟨dk_in (List.mem_of_getElem? (i := 95) (by decide +kernel)) rfl, dk_in (List.mem_of_getElem? (i := 67) (by decide +kernel)) rfl, dk_in (List.mem_of_getElem? (i := 96) (by decide +kernel)) rfl, by decide +kernel, by decide +kernel⟩
theorem d_Land_init_0 : decode b_Land_init 0 = .ok (.aload_n 0, 1) := by decide +kernel
theorem d_Land_init_1 : decode b_Land_init 1 = .ok (.invokespecial 3, 3) := by decide +kernel
theorem mo_Land : Cond.methodLink R_Land 3 Lib.objectInit ∈ dk_tb := dk_in (List.mem_of_getElem? (i := 97) (by decide +kernel)) rfl
theorem d_Land_init_4 : decode b_Land_init 4 = .ok (.aload_n 0, 1) := by decide +kernel
theorem d_Land_init_5 : decode b_Land_init 5 = .ok (.bipush 8, 2) := by decide +kernel
theorem d_Land_init_7 : decode b_Land_init 7 = .ok (.newarray .int, 2) := by decide +kernel
theorem d_Land_init_9 : decode b_Land_init 9 = .ok (.putfield 9, 3) := by decide +kernel
theorem d_Land_init_12 : decode b_Land_init 12 = .ok (.aload_n 0, 1) := by decide +kernel
theorem d_Land_init_13 : decode b_Land_init 13 = .ok (.bipush 6, 2) := by decide +kernel
theorem d_Land_init_15 : decode b_Land_init 15 = .ok (.newarray .int, 2) := by decide +kernel
theorem d_Land_init_17 : decode b_Land_init 17 = .ok (.putfield 15, 3) := by decide +kernel
theorem d_Land_init_20 : decode b_Land_init 20 = .ok (.aload_n 0, 1) := by decide +kernel
theorem d_Land_init_21 : decode b_Land_init 21 = .ok (.bipush 6, 2) := by decide +kernel
theorem d_Land_init_23 : decode b_Land_init 23 = .ok (.newarray .int, 2) := by decide +kernel
theorem d_Land_init_25 : decode b_Land_init 25 = .ok (.putfield 18, 3) := by decide +kernel
theorem d_Land_init_28 : decode b_Land_init 28 = .ok (.return_, 1) := by decide +kernel
theorem v_Diary_init : dk_Yi y_Diary_init b_Diary_init 1 0 := ⟨dk_in (List.mem_of_getElem? (i := 127) (by decide +kernel)) rfl, dk_in (List.mem_of_getElem? (i := 68) (by decide +kernel)) rfl, dk_in (List.mem_of_getElem? (i := 128) (by decide +kernel)) rfl, by decide +kernel, by decide +kernel⟩
theorem d_Diary_init_0 : decode b_Diary_init 0 = .ok (.aload_n 0, 1) := by decide +kernel
theorem d_Diary_init_1 : decode b_Diary_init 1 = .ok (.invokespecial 3, 3) := by decide +kernel
theorem mo_Diary : Cond.methodLink R_Diary 3 Lib.objectInit ∈ dk_tb := dk_in (List.mem_of_getElem? (i := 129) (by decide +kernel)) rfl
theorem d_Diary_init_4 : decode b_Diary_init 4 = .ok (.aload_n 0, 1) := by decide +kernel
theorem d_Diary_init_5 : decode b_Diary_init 5 = .ok (.bipush 32, 2) := by decide +kernel
theorem d_Diary_init_7 : decode b_Diary_init 7 = .ok (.newarray .int, 2) := by decide +kernel
theorem d_Diary_init_9 : decode b_Diary_init 9 = .ok (.putfield 9, 3) := by decide +kernel
theorem d_Diary_init_12 : decode b_Diary_init 12 = .ok (.aload_n 0, 1) := by decide +kernel
theorem d_Diary_init_13 : decode b_Diary_init 13 = .ok (.bipush 32, 2) := by decide +kernel
theorem d_Diary_init_15 : decode b_Diary_init 15 = .ok (.newarray .int, 2) := by decide +kernel
theorem d_Diary_init_17 : decode b_Diary_init 17 = .ok (.putfield 15, 3) := by decide +kernel
theorem d_Diary_init_20 : decode b_Diary_init 20 = .ok (.aload_n 0, 1) := by decide +kernel
theorem d_Diary_init_21 : decode b_Diary_init 21 = .ok (.bipush 32, 2) := by decide +kernel
theorem d_Diary_init_23 : decode b_Diary_init 23 = .ok (.newarray .int, 2) := by decide +kernel
theorem d_Diary_init_25 : decode b_Diary_init 25 = .ok (.putfield 18, 3) := by decide +kernel
theorem d_Diary_init_28 : decode b_Diary_init 28 = .ok (.aload_n 0, 1) := by decide +kernel
theorem d_Diary_init_29 : decode b_Diary_init 29 = .ok (.bipush 32, 2) := by decide +kernel
theorem d_Diary_init_31 : decode b_Diary_init 31 = .ok (.newarray .int, 2) := by decide +kernel
theorem d_Diary_init_33 : decode b_Diary_init 33 = .ok (.putfield 21, 3) := by decide +kernel
theorem d_Diary_init_36 : decode b_Diary_init 36 = .ok (.aload_n 0, 1) := by decide +kernel
theorem d_Diary_init_37 : decode b_Diary_init 37 = .ok (.bipush 32, 2) := by decide +kernel
theorem d_Diary_init_39 : decode b_Diary_init 39 = .ok (.newarray .int, 2) := by decide +kernel
theorem d_Diary_init_41 : decode b_Diary_init 41 = .ok (.putfield 24, 3) := by decide +kernel
theorem d_Diary_init_44 : decode b_Diary_init 44 = .ok (.aload_n 0, 1) := by decide +kernel
theorem d_Diary_init_45 : decode b_Diary_init 45 = .ok (.bipush 32, 2) := by decide +kernel
theorem d_Diary_init_47 : decode b_Diary_init 47 = .ok (.newarray .int, 2) := by decide +kernel
theorem d_Diary_init_49 : decode b_Diary_init 49 = .ok (.putfield 27, 3) := by decide +kernel
theorem d_Diary_init_52 : decode b_Diary_init 52 = .ok (.return_, 1) := by decide +kernel
theorem v_Reader_init : dk_Yi y_Reader_init b_Reader_init 1 0 := ⟨dk_in (List.mem_of_getElem? (i := 171) (by decide +kernel)) rfl, dk_in (List.mem_of_getElem? (i := 69) (by decide +kernel)) rfl, dk_in (List.mem_of_getElem? (i := 172) (by decide +kernel)) rfl, by decide +kernel, by decide +kernel⟩
theorem d_Reader_init_0 : decode b_Reader_init 0 = .ok (.aload_n 0, 1) := by decide +kernel
theorem d_Reader_init_1 : decode b_Reader_init 1 = .ok (.invokespecial 3, 3) := by decide +kernel
theorem mo_Reader : Cond.methodLink R_Reader 3 Lib.objectInit ∈ dk_tb := dk_in (List.mem_of_getElem? (i := 173) (by decide +kernel)) rfl
theorem d_Reader_init_4 : decode b_Reader_init 4 = .ok (.aload_n 0, 1) := by decide +kernel
theorem d_Reader_init_5 : decode b_Reader_init 5 = .ok (.sipush 160, 3) := by decide +kernel
theorem d_Reader_init_8 : decode b_Reader_init 8 = .ok (.newarray .byte, 2) := by decide +kernel
theorem ac_byte : Cond.arrayClass .byte ∈ dk_tb := dk_in (List.mem_of_getElem? (i := 210) (by decide +kernel)) rfl
theorem d_Reader_init_10 : decode b_Reader_init 10 = .ok (.putfield 9, 3) := by decide +kernel
theorem d_Reader_init_13 : decode b_Reader_init 13 = .ok (.aload_n 0, 1) := by decide +kernel
theorem d_Reader_init_14 : decode b_Reader_init 14 = .ok (.sipush 160, 3) := by decide +kernel
theorem d_Reader_init_17 : decode b_Reader_init 17 = .ok (.newarray .int, 2) := by decide +kernel
theorem d_Reader_init_19 : decode b_Reader_init 19 = .ok (.putfield 15, 3) := by decide +kernel
theorem d_Reader_init_22 : decode b_Reader_init 22 = .ok (.return_, 1) := by decide +kernel
theorem v_Scales_init : dk_Yi y_Scales_init b_Scales_init 2 1 := ⟨dk_in (List.mem_of_getElem? (i := 229) (by decide +kernel)) rfl, dk_in (List.mem_of_getElem? (i := 71) (by decide +kernel)) rfl, dk_in (List.mem_of_getElem? (i := 230) (by decide +kernel)) rfl, by decide +kernel, by decide +kernel⟩
theorem d_Scales_init_0 : decode b_Scales_init 0 = .ok (.aload_n 0, 1) := by decide +kernel
theorem d_Scales_init_1 : decode b_Scales_init 1 = .ok (.invokespecial 3, 3) := by decide +kernel
theorem mo_Scales : Cond.methodLink R_Scales 3 Lib.objectInit ∈ dk_tb := dk_in (List.mem_of_getElem? (i := 231) (by decide +kernel)) rfl
theorem d_Scales_init_4 : decode b_Scales_init 4 = .ok (.aload_n 0, 1) := by decide +kernel
theorem d_Scales_init_5 : decode b_Scales_init 5 = .ok (.bipush 6, 2) := by decide +kernel
theorem d_Scales_init_7 : decode b_Scales_init 7 = .ok (.newarray .int, 2) := by decide +kernel
theorem d_Scales_init_9 : decode b_Scales_init 9 = .ok (.putfield 9, 3) := by decide +kernel
theorem d_Scales_init_12 : decode b_Scales_init 12 = .ok (.aload_n 0, 1) := by decide +kernel
theorem d_Scales_init_13 : decode b_Scales_init 13 = .ok (.sipush 160, 3) := by decide +kernel
theorem d_Scales_init_16 : decode b_Scales_init 16 = .ok (.newarray .int, 2) := by decide +kernel
theorem d_Scales_init_18 : decode b_Scales_init 18 = .ok (.putfield 15, 3) := by decide +kernel
theorem d_Scales_init_21 : decode b_Scales_init 21 = .ok (.aload_n 0, 1) := by decide +kernel
theorem d_Scales_init_22 : decode b_Scales_init 22 = .ok (.aload_n 1, 1) := by decide +kernel
theorem d_Scales_init_23 : decode b_Scales_init 23 = .ok (.putfield 18, 3) := by decide +kernel
theorem f_Scales_18 : Cond.fieldLink R_Scales 18 (T_Scales 2).1 (T_Scales 2).2.1 (T_Scales 2).2.2.1 ∈ dk_tb := dk_in (List.mem_of_getElem? (i := 234) (by decide +kernel)) rfl
theorem d_Scales_init_26 : decode b_Scales_init 26 = .ok (.return_, 1) := by decide +kernel
theorem v_Scene_init : dk_Yi y_Scene_init b_Scene_init 4 3 := ⟨dk_in (List.mem_of_getElem? (i := 247) (by decide +kernel)) rfl, dk_in (List.mem_of_getElem? (i := 72) (by decide +kernel)) rfl, dk_in (List.mem_of_getElem? (i := 248) (by decide +kernel)) rfl, by decide +kernel, by decide +kernel⟩
theorem d_Scene_init_0 : decode b_Scene_init 0 = .ok (.aload_n 0, 1) := by decide +kernel
theorem d_Scene_init_1 : decode b_Scene_init 1 = .ok (.invokespecial 3, 3) := by decide +kernel
theorem mo_Scene : Cond.methodLink R_Scene 3 Lib.objectInit ∈ dk_tb := dk_in (List.mem_of_getElem? (i := 249) (by decide +kernel)) rfl
theorem d_Scene_init_4 : decode b_Scene_init 4 = .ok (.aload_n 0, 1) := by decide +kernel
theorem d_Scene_init_5 : decode b_Scene_init 5 = .ok (.bipush 44, 2) := by decide +kernel
theorem d_Scene_init_7 : decode b_Scene_init 7 = .ok (.newarray .int, 2) := by decide +kernel
theorem d_Scene_init_9 : decode b_Scene_init 9 = .ok (.putfield 9, 3) := by decide +kernel
theorem d_Scene_init_12 : decode b_Scene_init 12 = .ok (.aload_n 0, 1) := by decide +kernel
theorem d_Scene_init_13 : decode b_Scene_init 13 = .ok (.bipush 44, 2) := by decide +kernel
theorem d_Scene_init_15 : decode b_Scene_init 15 = .ok (.newarray .int, 2) := by decide +kernel
theorem d_Scene_init_17 : decode b_Scene_init 17 = .ok (.putfield 15, 3) := by decide +kernel
theorem d_Scene_init_20 : decode b_Scene_init 20 = .ok (.aload_n 0, 1) := by decide +kernel
theorem d_Scene_init_21 : decode b_Scene_init 21 = .ok (.bipush 44, 2) := by decide +kernel
theorem d_Scene_init_23 : decode b_Scene_init 23 = .ok (.newarray .int, 2) := by decide +kernel
theorem d_Scene_init_25 : decode b_Scene_init 25 = .ok (.putfield 18, 3) := by decide +kernel
theorem d_Scene_init_28 : decode b_Scene_init 28 = .ok (.aload_n 0, 1) := by decide +kernel
theorem d_Scene_init_29 : decode b_Scene_init 29 = .ok (.bipush 44, 2) := by decide +kernel
theorem d_Scene_init_31 : decode b_Scene_init 31 = .ok (.newarray .int, 2) := by decide +kernel
theorem d_Scene_init_33 : decode b_Scene_init 33 = .ok (.putfield 21, 3) := by decide +kernel
theorem d_Scene_init_36 : decode b_Scene_init 36 = .ok (.aload_n 0, 1) := by decide +kernel
theorem d_Scene_init_37 : decode b_Scene_init 37 = .ok (.bipush 44, 2) := by decide +kernel
theorem d_Scene_init_39 : decode b_Scene_init 39 = .ok (.newarray .int, 2) := by decide +kernel
theorem d_Scene_init_41 : decode b_Scene_init 41 = .ok (.putfield 24, 3) := by decide +kernel
theorem d_Scene_init_44 : decode b_Scene_init 44 = .ok (.aload_n 0, 1) := by decide +kernel
theorem d_Scene_init_45 : decode b_Scene_init 45 = .ok (.bipush 44, 2) := by decide +kernel
theorem d_Scene_init_47 : decode b_Scene_init 47 = .ok (.newarray .int, 2) := by decide +kernel
theorem d_Scene_init_49 : decode b_Scene_init 49 = .ok (.putfield 27, 3) := by decide +kernel
theorem d_Scene_init_52 : decode b_Scene_init 52 = .ok (.aload_n 0, 1) := by decide +kernel
theorem d_Scene_init_53 : decode b_Scene_init 53 = .ok (.bipush 44, 2) := by decide +kernel
theorem d_Scene_init_55 : decode b_Scene_init 55 = .ok (.newarray .int, 2) := by decide +kernel
theorem d_Scene_init_57 : decode b_Scene_init 57 = .ok (.putfield 30, 3) := by decide +kernel
theorem d_Scene_init_60 : decode b_Scene_init 60 = .ok (.aload_n 0, 1) := by decide +kernel
theorem d_Scene_init_61 : decode b_Scene_init 61 = .ok (.bipush 44, 2) := by decide +kernel
theorem d_Scene_init_63 : decode b_Scene_init 63 = .ok (.newarray .boolean, 2) := by decide +kernel
theorem ac_boolean : Cond.arrayClass .boolean ∈ dk_tb := dk_in (List.mem_of_getElem? (i := 323) (by decide +kernel)) rfl
theorem d_Scene_init_65 : decode b_Scene_init 65 = .ok (.putfield 33, 3) := by decide +kernel
theorem d_Scene_init_68 : decode b_Scene_init 68 = .ok (.aload_n 0, 1) := by decide +kernel
theorem d_Scene_init_69 : decode b_Scene_init 69 = .ok (.bipush 6, 2) := by decide +kernel
theorem d_Scene_init_71 : decode b_Scene_init 71 = .ok (.newarray .int, 2) := by decide +kernel
theorem d_Scene_init_73 : decode b_Scene_init 73 = .ok (.putfield 37, 3) := by decide +kernel
theorem d_Scene_init_76 : decode b_Scene_init 76 = .ok (.aload_n 0, 1) := by decide +kernel
theorem d_Scene_init_77 : decode b_Scene_init 77 = .ok (.bipush 6, 2) := by decide +kernel
theorem d_Scene_init_79 : decode b_Scene_init 79 = .ok (.newarray .int, 2) := by decide +kernel
theorem d_Scene_init_81 : decode b_Scene_init 81 = .ok (.putfield 40, 3) := by decide +kernel
theorem d_Scene_init_84 : decode b_Scene_init 84 = .ok (.aload_n 0, 1) := by decide +kernel
theorem d_Scene_init_85 : decode b_Scene_init 85 = .ok (.bipush 6, 2) := by decide +kernel
theorem d_Scene_init_87 : decode b_Scene_init 87 = .ok (.newarray .boolean, 2) := by decide +kernel
theorem d_Scene_init_89 : decode b_Scene_init 89 = .ok (.putfield 43, 3) := by decide +kernel
theorem d_Scene_init_92 : decode b_Scene_init 92 = .ok (.aload_n 0, 1) := by decide +kernel
theorem d_Scene_init_93 : decode b_Scene_init 93 = .ok (.aload_n 1, 1) := by decide +kernel
theorem d_Scene_init_94 : decode b_Scene_init 94 = .ok (.putfield 46, 3) := by decide +kernel
theorem d_Scene_init_97 : decode b_Scene_init 97 = .ok (.aload_n 0, 1) := by decide +kernel
theorem d_Scene_init_98 : decode b_Scene_init 98 = .ok (.aload_n 2, 1) := by decide +kernel
theorem d_Scene_init_99 : decode b_Scene_init 99 = .ok (.putfield 50, 3) := by decide +kernel
theorem d_Scene_init_102 : decode b_Scene_init 102 = .ok (.aload_n 0, 1) := by decide +kernel
theorem d_Scene_init_103 : decode b_Scene_init 103 = .ok (.aload_n 3, 1) := by decide +kernel
theorem d_Scene_init_104 : decode b_Scene_init 104 = .ok (.putfield 54, 3) := by decide +kernel
theorem d_Scene_init_107 : decode b_Scene_init 107 = .ok (.return_, 1) := by decide +kernel
theorem v_Sheet_init : dk_Yi y_Sheet_init b_Sheet_init 1 0 := ⟨dk_in (List.mem_of_getElem? (i := 329) (by decide +kernel)) rfl, dk_in (List.mem_of_getElem? (i := 73) (by decide +kernel)) rfl, dk_in (List.mem_of_getElem? (i := 330) (by decide +kernel)) rfl, by decide +kernel, by decide +kernel⟩
theorem d_Sheet_init_0 : decode b_Sheet_init 0 = .ok (.aload_n 0, 1) := by decide +kernel
theorem d_Sheet_init_1 : decode b_Sheet_init 1 = .ok (.invokespecial 3, 3) := by decide +kernel
theorem mo_Sheet : Cond.methodLink R_Sheet 3 Lib.objectInit ∈ dk_tb := dk_in (List.mem_of_getElem? (i := 331) (by decide +kernel)) rfl
theorem d_Sheet_init_4 : decode b_Sheet_init 4 = .ok (.aload_n 0, 1) := by decide +kernel
theorem d_Sheet_init_5 : decode b_Sheet_init 5 = .ok (.bipush 40, 2) := by decide +kernel
theorem d_Sheet_init_7 : decode b_Sheet_init 7 = .ok (.newarray .int, 2) := by decide +kernel
theorem d_Sheet_init_9 : decode b_Sheet_init 9 = .ok (.putfield 9, 3) := by decide +kernel
theorem d_Sheet_init_12 : decode b_Sheet_init 12 = .ok (.aload_n 0, 1) := by decide +kernel
theorem d_Sheet_init_13 : decode b_Sheet_init 13 = .ok (.iconst (-1), 1) := by decide +kernel
theorem d_Sheet_init_14 : decode b_Sheet_init 14 = .ok (.putfield 15, 3) := by decide +kernel
theorem d_Sheet_init_17 : decode b_Sheet_init 17 = .ok (.return_, 1) := by decide +kernel
theorem v_Image_init : dk_Yi y_Image_init b_Image_init 1 0 := ⟨dk_in (List.mem_of_getElem? (i := 348) (by decide +kernel)) rfl, dk_in (List.mem_of_getElem? (i := 74) (by decide +kernel)) rfl, dk_in (List.mem_of_getElem? (i := 349) (by decide +kernel)) rfl, by decide +kernel, by decide +kernel⟩
theorem d_Image_init_0 : decode b_Image_init 0 = .ok (.aload_n 0, 1) := by decide +kernel
theorem d_Image_init_1 : decode b_Image_init 1 = .ok (.invokespecial 3, 3) := by decide +kernel
theorem mo_Image : Cond.methodLink R_Image 3 Lib.objectInit ∈ dk_tb := dk_in (List.mem_of_getElem? (i := 350) (by decide +kernel)) rfl
theorem d_Image_init_4 : decode b_Image_init 4 = .ok (.aload_n 0, 1) := by decide +kernel
theorem d_Image_init_5 : decode b_Image_init 5 = .ok (.bipush 8, 2) := by decide +kernel
theorem d_Image_init_7 : decode b_Image_init 7 = .ok (.newarray .int, 2) := by decide +kernel
theorem d_Image_init_9 : decode b_Image_init 9 = .ok (.putfield 9, 3) := by decide +kernel
theorem d_Image_init_12 : decode b_Image_init 12 = .ok (.aload_n 0, 1) := by decide +kernel
theorem d_Image_init_13 : decode b_Image_init 13 = .ok (.bipush 32, 2) := by decide +kernel
theorem d_Image_init_15 : decode b_Image_init 15 = .ok (.newarray .int, 2) := by decide +kernel
theorem d_Image_init_17 : decode b_Image_init 17 = .ok (.putfield 15, 3) := by decide +kernel
theorem d_Image_init_20 : decode b_Image_init 20 = .ok (.return_, 1) := by decide +kernel
abbrev rm_Land_init : Room := { frames := 1, cells := 3, slots := 20, locals := 20 }
def w_Land_init (g : dk_G) (a  : Nat) (u : Nat → Nat) : va_W := [(a, .inr (0, [.ref (u 0), .ref (u 1), .ref (u 2), .int 0, .int 0])), (u 0, .inl (g.2.1 0, 8, .inl (fun _ => 0))), (u 1, .inl (g.2.1 0, 6, .inl (fun _ => 0))), (u 2, .inl (g.2.1 0, 6, .inl (fun _ => 0)))]
theorem c_Land_init (l : Launch) (g : dk_G) (a : Nat) : dk_Nv l g y_Land_init b_Land_init 1 rm_Land_init [.ref a] dk_EO [(a, .inr (0, [.null, .null, .null, .int 0, .int 0]))] (Nat → Nat) (w_Land_init g a ) 3 20 :=
  dk_enterN (by decide) (Nat.le_of_ble_eq_true rfl) (fun p e s m args below meth c A Q X hE hnm hR => by
    refine dk_aload_n (k := 0) (i := 0) X 0 rfl rfl d_Land_init_0 ?_
    refine dk_objI X mo_Land w_oi.1 w_oi.2 (Nat.le_of_ble_eq_true rfl) (Nat.le_of_ble_eq_true rfl) d_Land_init_1 ?_
    refine dk_aload_n (k := 0) (i := 0) X 0 rfl rfl d_Land_init_4 ?_
    refine dk_bipush (v := 8) X (by decide) d_Land_init_5 ?_
    refine dk_newa X (N := 8) (a0 := (8, .inl fun _ => 0)) 0 rfl (fun _ _ h => h) rfl ac_int (fun _ => rfl) (by decide) (by decide) (by decide) (Nat.le_of_ble_eq_true rfl) (Nat.le_of_ble_eq_true rfl) d_Land_init_7 (fun a1 => ?_)
    refine dk_wsE (ws' := [(a, .inr (0, [.null, .null, .null, .int 0, .int 0])), (a1, .inl (g.2.1 0, 8, .inl (fun _ => 0)))]) rfl ?_
    refine dk_putF (ws' := [(a, .inr (0, [.ref a1, .null, .null, .int 0, .int 0])), (a1, .inl (g.2.1 0, 8, .inl (fun _ => 0)))]) X q_Land 0 0 (by decide) rfl f_Land_9 rfl hnm rfl rfl rfl rfl (Nat.le_of_ble_eq_true rfl) rfl d_Land_init_9 ?_
    refine dk_aload_n (k := 0) (i := 0) X 0 rfl rfl d_Land_init_12 ?_
    refine dk_bipush (v := 6) X (by decide) d_Land_init_13 ?_
    refine dk_newa X (N := 6) (a0 := (6, .inl fun _ => 0)) 0 rfl (fun _ _ h => h) rfl ac_int (fun _ => rfl) (by decide) (by decide) (by decide) (Nat.le_of_ble_eq_true rfl) (Nat.le_of_ble_eq_true rfl) d_Land_init_15 (fun a2 => ?_)
    refine dk_wsE (ws' := [(a, .inr (0, [.ref a1, .null, .null, .int 0, .int 0])), (a1, .inl (g.2.1 0, 8, .inl (fun _ => 0))), (a2, .inl (g.2.1 0, 6, .inl (fun _ => 0)))]) rfl ?_
    refine dk_putF (ws' := [(a, .inr (0, [.ref a1, .ref a2, .null, .int 0, .int 0])), (a1, .inl (g.2.1 0, 8, .inl (fun _ => 0))), (a2, .inl (g.2.1 0, 6, .inl (fun _ => 0)))]) X q_Land 0 1 (by decide) rfl f_Land_15 rfl hnm rfl rfl rfl rfl (Nat.le_of_ble_eq_true rfl) rfl d_Land_init_17 ?_
    refine dk_aload_n (k := 0) (i := 0) X 0 rfl rfl d_Land_init_20 ?_
    refine dk_bipush (v := 6) X (by decide) d_Land_init_21 ?_
    refine dk_newa X (N := 6) (a0 := (6, .inl fun _ => 0)) 0 rfl (fun _ _ h => h) rfl ac_int (fun _ => rfl) (by decide) (by decide) (by decide) (Nat.le_of_ble_eq_true rfl) (Nat.le_of_ble_eq_true rfl) d_Land_init_23 (fun a3 => ?_)
    refine dk_wsE (ws' := [(a, .inr (0, [.ref a1, .ref a2, .null, .int 0, .int 0])), (a1, .inl (g.2.1 0, 8, .inl (fun _ => 0))), (a2, .inl (g.2.1 0, 6, .inl (fun _ => 0))), (a3, .inl (g.2.1 0, 6, .inl (fun _ => 0)))]) rfl ?_
    refine dk_putF (ws' := [(a, .inr (0, [.ref a1, .ref a2, .ref a3, .int 0, .int 0])), (a1, .inl (g.2.1 0, 8, .inl (fun _ => 0))), (a2, .inl (g.2.1 0, 6, .inl (fun _ => 0))), (a3, .inl (g.2.1 0, 6, .inl (fun _ => 0)))]) X q_Land 0 2 (by decide) rfl f_Land_18 rfl hnm rfl rfl rfl rfl (Nat.le_of_ble_eq_true rfl) rfl d_Land_init_25 ?_
    exact hR (fun k => [a1, a2, a3].getD k 0) _ _ d_Land_init_28)
abbrev rm_Diary_init : Room := { frames := 1, cells := 6, slots := 192, locals := 20 }
def w_Diary_init (g : dk_G) (a  : Nat) (u : Nat → Nat) : va_W := [(a, .inr (1, [.ref (u 0), .ref (u 1), .ref (u 2), .ref (u 3), .ref (u 4), .ref (u 5), .int 0])), (u 0, .inl (g.2.1 0, 32, .inl (fun _ => 0))), (u 1, .inl (g.2.1 0, 32, .inl (fun _ => 0))), (u 2, .inl (g.2.1 0, 32, .inl (fun _ => 0))), (u 3, .inl (g.2.1 0, 32, .inl (fun _ => 0))), (u 4, .inl (g.2.1 0, 32, .inl (fun _ => 0))), (u 5, .inl (g.2.1 0, 32, .inl (fun _ => 0)))]
theorem c_Diary_init (l : Launch) (g : dk_G) (a : Nat) : dk_Nv l g y_Diary_init b_Diary_init 1 rm_Diary_init [.ref a] dk_EO [(a, .inr (1, [.null, .null, .null, .null, .null, .null, .int 0]))] (Nat → Nat) (w_Diary_init g a ) 6 192 :=
  dk_enterN (by decide) (Nat.le_of_ble_eq_true rfl) (fun p e s m args below meth c A Q X hE hnm hR => by
    refine dk_aload_n (k := 0) (i := 0) X 0 rfl rfl d_Diary_init_0 ?_
    refine dk_objI X mo_Diary w_oi.1 w_oi.2 (Nat.le_of_ble_eq_true rfl) (Nat.le_of_ble_eq_true rfl) d_Diary_init_1 ?_
    refine dk_aload_n (k := 0) (i := 0) X 0 rfl rfl d_Diary_init_4 ?_
    refine dk_bipush (v := 32) X (by decide) d_Diary_init_5 ?_
    refine dk_newa X (N := 32) (a0 := (32, .inl fun _ => 0)) 0 rfl (fun _ _ h => h) rfl ac_int (fun _ => rfl) (by decide) (by decide) (by decide) (Nat.le_of_ble_eq_true rfl) (Nat.le_of_ble_eq_true rfl) d_Diary_init_7 (fun a1 => ?_)
    refine dk_wsE (ws' := [(a, .inr (1, [.null, .null, .null, .null, .null, .null, .int 0])), (a1, .inl (g.2.1 0, 32, .inl (fun _ => 0)))]) rfl ?_
    refine dk_putF (ws' := [(a, .inr (1, [.ref a1, .null, .null, .null, .null, .null, .int 0])), (a1, .inl (g.2.1 0, 32, .inl (fun _ => 0)))]) X q_Diary 0 0 (by decide) rfl f_Diary_9 rfl hnm rfl rfl rfl rfl (Nat.le_of_ble_eq_true rfl) rfl d_Diary_init_9 ?_
    refine dk_aload_n (k := 0) (i := 0) X 0 rfl rfl d_Diary_init_12 ?_
    refine dk_bipush (v := 32) X (by decide) d_Diary_init_13 ?_
    refine dk_newa X (N := 32) (a0 := (32, .inl fun _ => 0)) 0 rfl (fun _ _ h => h) rfl ac_int (fun _ => rfl) (by decide) (by decide) (by decide) (Nat.le_of_ble_eq_true rfl) (Nat.le_of_ble_eq_true rfl) d_Diary_init_15 (fun a2 => ?_)
    refine dk_wsE (ws' := [(a, .inr (1, [.ref a1, .null, .null, .null, .null, .null, .int 0])), (a1, .inl (g.2.1 0, 32, .inl (fun _ => 0))), (a2, .inl (g.2.1 0, 32, .inl (fun _ => 0)))]) rfl ?_
    refine dk_putF (ws' := [(a, .inr (1, [.ref a1, .ref a2, .null, .null, .null, .null, .int 0])), (a1, .inl (g.2.1 0, 32, .inl (fun _ => 0))), (a2, .inl (g.2.1 0, 32, .inl (fun _ => 0)))]) X q_Diary 0 1 (by decide) rfl f_Diary_15 rfl hnm rfl rfl rfl rfl (Nat.le_of_ble_eq_true rfl) rfl d_Diary_init_17 ?_
    refine dk_aload_n (k := 0) (i := 0) X 0 rfl rfl d_Diary_init_20 ?_
    refine dk_bipush (v := 32) X (by decide) d_Diary_init_21 ?_
    refine dk_newa X (N := 32) (a0 := (32, .inl fun _ => 0)) 0 rfl (fun _ _ h => h) rfl ac_int (fun _ => rfl) (by decide) (by decide) (by decide) (Nat.le_of_ble_eq_true rfl) (Nat.le_of_ble_eq_true rfl) d_Diary_init_23 (fun a3 => ?_)
    refine dk_wsE (ws' := [(a, .inr (1, [.ref a1, .ref a2, .null, .null, .null, .null, .int 0])), (a1, .inl (g.2.1 0, 32, .inl (fun _ => 0))), (a2, .inl (g.2.1 0, 32, .inl (fun _ => 0))), (a3, .inl (g.2.1 0, 32, .inl (fun _ => 0)))]) rfl ?_
    refine dk_putF (ws' := [(a, .inr (1, [.ref a1, .ref a2, .ref a3, .null, .null, .null, .int 0])), (a1, .inl (g.2.1 0, 32, .inl (fun _ => 0))), (a2, .inl (g.2.1 0, 32, .inl (fun _ => 0))), (a3, .inl (g.2.1 0, 32, .inl (fun _ => 0)))]) X q_Diary 0 2 (by decide) rfl f_Diary_18 rfl hnm rfl rfl rfl rfl (Nat.le_of_ble_eq_true rfl) rfl d_Diary_init_25 ?_
    refine dk_aload_n (k := 0) (i := 0) X 0 rfl rfl d_Diary_init_28 ?_
    refine dk_bipush (v := 32) X (by decide) d_Diary_init_29 ?_
    refine dk_newa X (N := 32) (a0 := (32, .inl fun _ => 0)) 0 rfl (fun _ _ h => h) rfl ac_int (fun _ => rfl) (by decide) (by decide) (by decide) (Nat.le_of_ble_eq_true rfl) (Nat.le_of_ble_eq_true rfl) d_Diary_init_31 (fun a4 => ?_)
    refine dk_wsE (ws' := [(a, .inr (1, [.ref a1, .ref a2, .ref a3, .null, .null, .null, .int 0])), (a1, .inl (g.2.1 0, 32, .inl (fun _ => 0))), (a2, .inl (g.2.1 0, 32, .inl (fun _ => 0))), (a3, .inl (g.2.1 0, 32, .inl (fun _ => 0))), (a4, .inl (g.2.1 0, 32, .inl (fun _ => 0)))]) rfl ?_
    refine dk_putF (ws' := [(a, .inr (1, [.ref a1, .ref a2, .ref a3, .ref a4, .null, .null, .int 0])), (a1, .inl (g.2.1 0, 32, .inl (fun _ => 0))), (a2, .inl (g.2.1 0, 32, .inl (fun _ => 0))), (a3, .inl (g.2.1 0, 32, .inl (fun _ => 0))), (a4, .inl (g.2.1 0, 32, .inl (fun _ => 0)))]) X q_Diary 0 3 (by decide) rfl f_Diary_21 rfl hnm rfl rfl rfl rfl (Nat.le_of_ble_eq_true rfl) rfl d_Diary_init_33 ?_
    refine dk_aload_n (k := 0) (i := 0) X 0 rfl rfl d_Diary_init_36 ?_
    refine dk_bipush (v := 32) X (by decide) d_Diary_init_37 ?_
    refine dk_newa X (N := 32) (a0 := (32, .inl fun _ => 0)) 0 rfl (fun _ _ h => h) rfl ac_int (fun _ => rfl) (by decide) (by decide) (by decide) (Nat.le_of_ble_eq_true rfl) (Nat.le_of_ble_eq_true rfl) d_Diary_init_39 (fun a5 => ?_)
    refine dk_wsE (ws' := [(a, .inr (1, [.ref a1, .ref a2, .ref a3, .ref a4, .null, .null, .int 0])), (a1, .inl (g.2.1 0, 32, .inl (fun _ => 0))), (a2, .inl (g.2.1 0, 32, .inl (fun _ => 0))), (a3, .inl (g.2.1 0, 32, .inl (fun _ => 0))), (a4, .inl (g.2.1 0, 32, .inl (fun _ => 0))), (a5, .inl (g.2.1 0, 32, .inl (fun _ => 0)))]) rfl ?_
    refine dk_putF (ws' := [(a, .inr (1, [.ref a1, .ref a2, .ref a3, .ref a4, .ref a5, .null, .int 0])), (a1, .inl (g.2.1 0, 32, .inl (fun _ => 0))), (a2, .inl (g.2.1 0, 32, .inl (fun _ => 0))), (a3, .inl (g.2.1 0, 32, .inl (fun _ => 0))), (a4, .inl (g.2.1 0, 32, .inl (fun _ => 0))), (a5, .inl (g.2.1 0, 32, .inl (fun _ => 0)))]) X q_Diary 0 4 (by decide) rfl f_Diary_24 rfl hnm rfl rfl rfl rfl (Nat.le_of_ble_eq_true rfl) rfl d_Diary_init_41 ?_
    refine dk_aload_n (k := 0) (i := 0) X 0 rfl rfl d_Diary_init_44 ?_
    refine dk_bipush (v := 32) X (by decide) d_Diary_init_45 ?_
    refine dk_newa X (N := 32) (a0 := (32, .inl fun _ => 0)) 0 rfl (fun _ _ h => h) rfl ac_int (fun _ => rfl) (by decide) (by decide) (by decide) (Nat.le_of_ble_eq_true rfl) (Nat.le_of_ble_eq_true rfl) d_Diary_init_47 (fun a6 => ?_)
    refine dk_wsE (ws' := [(a, .inr (1, [.ref a1, .ref a2, .ref a3, .ref a4, .ref a5, .null, .int 0])), (a1, .inl (g.2.1 0, 32, .inl (fun _ => 0))), (a2, .inl (g.2.1 0, 32, .inl (fun _ => 0))), (a3, .inl (g.2.1 0, 32, .inl (fun _ => 0))), (a4, .inl (g.2.1 0, 32, .inl (fun _ => 0))), (a5, .inl (g.2.1 0, 32, .inl (fun _ => 0))), (a6, .inl (g.2.1 0, 32, .inl (fun _ => 0)))]) rfl ?_
    refine dk_putF (ws' := [(a, .inr (1, [.ref a1, .ref a2, .ref a3, .ref a4, .ref a5, .ref a6, .int 0])), (a1, .inl (g.2.1 0, 32, .inl (fun _ => 0))), (a2, .inl (g.2.1 0, 32, .inl (fun _ => 0))), (a3, .inl (g.2.1 0, 32, .inl (fun _ => 0))), (a4, .inl (g.2.1 0, 32, .inl (fun _ => 0))), (a5, .inl (g.2.1 0, 32, .inl (fun _ => 0))), (a6, .inl (g.2.1 0, 32, .inl (fun _ => 0)))]) X q_Diary 0 5 (by decide) rfl f_Diary_27 rfl hnm rfl rfl rfl rfl (Nat.le_of_ble_eq_true rfl) rfl d_Diary_init_49 ?_
    exact hR (fun k => [a1, a2, a3, a4, a5, a6].getD k 0) _ _ d_Diary_init_52)
abbrev rm_Reader_init : Room := { frames := 1, cells := 2, slots := 320, locals := 20 }
def w_Reader_init (g : dk_G) (a  : Nat) (u : Nat → Nat) : va_W := [(a, .inr (2, [.ref (u 0), .int 0, .int 0, .ref (u 1), .int 0, .int 0, .int 0, .int 0, .int 0, .int 0, .int 0])), (u 0, .inl (g.2.1 2, 160, .inl (fun _ => 0))), (u 1, .inl (g.2.1 0, 160, .inl (fun _ => 0)))]
theorem c_Reader_init (l : Launch) (g : dk_G) (a : Nat) : dk_Nv l g y_Reader_init b_Reader_init 1 rm_Reader_init [.ref a] dk_EO [(a, .inr (2, [.null, .int 0, .int 0, .null, .int 0, .int 0, .int 0, .int 0, .int 0, .int 0, .int 0]))] (Nat → Nat) (w_Reader_init g a ) 2 320 :=
  dk_enterN (by decide) (Nat.le_of_ble_eq_true rfl) (fun p e s m args below meth c A Q X hE hnm hR => by
    refine dk_aload_n (k := 0) (i := 0) X 0 rfl rfl d_Reader_init_0 ?_
    refine dk_objI X mo_Reader w_oi.1 w_oi.2 (Nat.le_of_ble_eq_true rfl) (Nat.le_of_ble_eq_true rfl) d_Reader_init_1 ?_
    refine dk_aload_n (k := 0) (i := 0) X 0 rfl rfl d_Reader_init_4 ?_
    refine dk_sipush (v := 160) X (by decide) d_Reader_init_5 ?_
    refine dk_newa X (N := 160) (a0 := (160, .inl fun _ => 0)) 2 rfl (fun _ _ h => h) rfl ac_byte (fun _ => rfl) (by decide) (by decide) (by decide) (Nat.le_of_ble_eq_true rfl) (Nat.le_of_ble_eq_true rfl) d_Reader_init_8 (fun a1 => ?_)
    refine dk_wsE (ws' := [(a, .inr (2, [.null, .int 0, .int 0, .null, .int 0, .int 0, .int 0, .int 0, .int 0, .int 0, .int 0])), (a1, .inl (g.2.1 2, 160, .inl (fun _ => 0)))]) rfl ?_
    refine dk_putF (ws' := [(a, .inr (2, [.ref a1, .int 0, .int 0, .null, .int 0, .int 0, .int 0, .int 0, .int 0, .int 0, .int 0])), (a1, .inl (g.2.1 2, 160, .inl (fun _ => 0)))]) X q_Reader 0 0 (by decide) rfl f_Reader_9 rfl hnm rfl rfl rfl rfl (Nat.le_of_ble_eq_true rfl) rfl d_Reader_init_10 ?_
    refine dk_aload_n (k := 0) (i := 0) X 0 rfl rfl d_Reader_init_13 ?_
    refine dk_sipush (v := 160) X (by decide) d_Reader_init_14 ?_
    refine dk_newa X (N := 160) (a0 := (160, .inl fun _ => 0)) 0 rfl (fun _ _ h => h) rfl ac_int (fun _ => rfl) (by decide) (by decide) (by decide) (Nat.le_of_ble_eq_true rfl) (Nat.le_of_ble_eq_true rfl) d_Reader_init_17 (fun a2 => ?_)
    refine dk_wsE (ws' := [(a, .inr (2, [.ref a1, .int 0, .int 0, .null, .int 0, .int 0, .int 0, .int 0, .int 0, .int 0, .int 0])), (a1, .inl (g.2.1 2, 160, .inl (fun _ => 0))), (a2, .inl (g.2.1 0, 160, .inl (fun _ => 0)))]) rfl ?_
    refine dk_putF (ws' := [(a, .inr (2, [.ref a1, .int 0, .int 0, .ref a2, .int 0, .int 0, .int 0, .int 0, .int 0, .int 0, .int 0])), (a1, .inl (g.2.1 2, 160, .inl (fun _ => 0))), (a2, .inl (g.2.1 0, 160, .inl (fun _ => 0)))]) X q_Reader 0 3 (by decide) rfl f_Reader_15 rfl hnm rfl rfl rfl rfl (Nat.le_of_ble_eq_true rfl) rfl d_Reader_init_19 ?_
    exact hR (fun k => [a1, a2].getD k 0) _ _ d_Reader_init_22)
abbrev rm_Scales_init : Room := { frames := 1, cells := 2, slots := 166, locals := 20 }
def w_Scales_init (g : dk_G) (a x : Nat) (u : Nat → Nat) : va_W := [(a, .inr (3, [.ref (u 0), .ref (u 1), .ref x])), (u 0, .inl (g.2.1 0, 6, .inl (fun _ => 0))), (u 1, .inl (g.2.1 0, 160, .inl (fun _ => 0)))]
theorem c_Scales_init (l : Launch) (g : dk_G) (a : Nat) (x : Nat) : dk_Nv l g y_Scales_init b_Scales_init 2 rm_Scales_init [.ref a, .ref x] dk_EO [(a, .inr (3, [.null, .null, .null]))] (Nat → Nat) (w_Scales_init g a x) 2 166 :=
  dk_enterN (by decide) (Nat.le_of_ble_eq_true rfl) (fun p e s m args below meth c A Q X hE hnm hR => by
    refine dk_aload_n (k := 0) (i := 0) X 0 rfl rfl d_Scales_init_0 ?_
    refine dk_objI X mo_Scales w_oi.1 w_oi.2 (Nat.le_of_ble_eq_true rfl) (Nat.le_of_ble_eq_true rfl) d_Scales_init_1 ?_
    refine dk_aload_n (k := 0) (i := 0) X 0 rfl rfl d_Scales_init_4 ?_
    refine dk_bipush (v := 6) X (by decide) d_Scales_init_5 ?_
    refine dk_newa X (N := 6) (a0 := (6, .inl fun _ => 0)) 0 rfl (fun _ _ h => h) rfl ac_int (fun _ => rfl) (by decide) (by decide) (by decide) (Nat.le_of_ble_eq_true rfl) (Nat.le_of_ble_eq_true rfl) d_Scales_init_7 (fun a1 => ?_)
    refine dk_wsE (ws' := [(a, .inr (3, [.null, .null, .null])), (a1, .inl (g.2.1 0, 6, .inl (fun _ => 0)))]) rfl ?_
    refine dk_putF (ws' := [(a, .inr (3, [.ref a1, .null, .null])), (a1, .inl (g.2.1 0, 6, .inl (fun _ => 0)))]) X q_Scales 0 0 (by decide) rfl f_Scales_9 rfl hnm rfl rfl rfl rfl (Nat.le_of_ble_eq_true rfl) rfl d_Scales_init_9 ?_
    refine dk_aload_n (k := 0) (i := 0) X 0 rfl rfl d_Scales_init_12 ?_
    refine dk_sipush (v := 160) X (by decide) d_Scales_init_13 ?_
    refine dk_newa X (N := 160) (a0 := (160, .inl fun _ => 0)) 0 rfl (fun _ _ h => h) rfl ac_int (fun _ => rfl) (by decide) (by decide) (by decide) (Nat.le_of_ble_eq_true rfl) (Nat.le_of_ble_eq_true rfl) d_Scales_init_16 (fun a2 => ?_)
    refine dk_wsE (ws' := [(a, .inr (3, [.ref a1, .null, .null])), (a1, .inl (g.2.1 0, 6, .inl (fun _ => 0))), (a2, .inl (g.2.1 0, 160, .inl (fun _ => 0)))]) rfl ?_
    refine dk_putF (ws' := [(a, .inr (3, [.ref a1, .ref a2, .null])), (a1, .inl (g.2.1 0, 6, .inl (fun _ => 0))), (a2, .inl (g.2.1 0, 160, .inl (fun _ => 0)))]) X q_Scales 0 1 (by decide) rfl f_Scales_15 rfl hnm rfl rfl rfl rfl (Nat.le_of_ble_eq_true rfl) rfl d_Scales_init_18 ?_
    refine dk_aload_n (k := 0) (i := 0) X 0 rfl rfl d_Scales_init_21 ?_
    refine dk_aload_n (k := 1) (i := 1) X 1 rfl rfl d_Scales_init_22 ?_
    refine dk_put (ws' := [(a, .inr (3, [.ref a1, .ref a2, .ref x])), (a1, .inl (g.2.1 0, 6, .inl (fun _ => 0))), (a2, .inl (g.2.1 0, 160, .inl (fun _ => 0)))]) X q_Scales 0 2 (by decide) rfl f_Scales_18 rfl rfl rfl rfl (Nat.le_of_ble_eq_true rfl) rfl d_Scales_init_23 ?_
    exact hR (fun k => [a1, a2].getD k 0) _ _ d_Scales_init_26)
abbrev rm_Scene_init : Room := { frames := 1, cells := 11, slots := 370, locals := 20 }
def w_Scene_init (g : dk_G) (a x y z : Nat) (u : Nat → Nat) : va_W := [(a, .inr (4, [.ref x, .ref y, .ref z, .ref (u 0), .ref (u 1), .ref (u 2), .ref (u 3), .ref (u 4), .ref (u 5), .ref (u 6), .ref (u 7), .int 0, .int 0, .ref (u 8), .ref (u 9), .ref (u 10), .int 0, .int 0, .int 0, .int 0])), (u 0, .inl (g.2.1 0, 44, .inl (fun _ => 0))), (u 1, .inl (g.2.1 0, 44, .inl (fun _ => 0))), (u 2, .inl (g.2.1 0, 44, .inl (fun _ => 0))), (u 3, .inl (g.2.1 0, 44, .inl (fun _ => 0))), (u 4, .inl (g.2.1 0, 44, .inl (fun _ => 0))), (u 5, .inl (g.2.1 0, 44, .inl (fun _ => 0))), (u 6, .inl (g.2.1 0, 44, .inl (fun _ => 0))), (u 7, .inl (g.2.1 1, 44, .inl (fun _ => 0))), (u 8, .inl (g.2.1 0, 6, .inl (fun _ => 0))), (u 9, .inl (g.2.1 0, 6, .inl (fun _ => 0))), (u 10, .inl (g.2.1 1, 6, .inl (fun _ => 0)))]
theorem c_Scene_init (l : Launch) (g : dk_G) (a : Nat) (x y z : Nat) : dk_Nv l g y_Scene_init b_Scene_init 4 rm_Scene_init [.ref a, .ref x, .ref y, .ref z] dk_EO [(a, .inr (4, [.null, .null, .null, .null, .null, .null, .null, .null, .null, .null, .null, .int 0, .int 0, .null, .null, .null, .int 0, .int 0, .int 0, .int 0]))] (Nat → Nat) (w_Scene_init g a x y z) 11 370 :=
  dk_enterN (by decide) (Nat.le_of_ble_eq_true rfl) (fun p e s m args below meth c A Q X hE hnm hR => by
    refine dk_aload_n (k := 0) (i := 0) X 0 rfl rfl d_Scene_init_0 ?_
    refine dk_objI X mo_Scene w_oi.1 w_oi.2 (Nat.le_of_ble_eq_true rfl) (Nat.le_of_ble_eq_true rfl) d_Scene_init_1 ?_
    refine dk_aload_n (k := 0) (i := 0) X 0 rfl rfl d_Scene_init_4 ?_
    refine dk_bipush (v := 44) X (by decide) d_Scene_init_5 ?_
    refine dk_newa X (N := 44) (a0 := (44, .inl fun _ => 0)) 0 rfl (fun _ _ h => h) rfl ac_int (fun _ => rfl) (by decide) (by decide) (by decide) (Nat.le_of_ble_eq_true rfl) (Nat.le_of_ble_eq_true rfl) d_Scene_init_7 (fun a1 => ?_)
    refine dk_wsE (ws' := [(a, .inr (4, [.null, .null, .null, .null, .null, .null, .null, .null, .null, .null, .null, .int 0, .int 0, .null, .null, .null, .int 0, .int 0, .int 0, .int 0])), (a1, .inl (g.2.1 0, 44, .inl (fun _ => 0)))]) rfl ?_
    refine dk_putF (ws' := [(a, .inr (4, [.null, .null, .null, .ref a1, .null, .null, .null, .null, .null, .null, .null, .int 0, .int 0, .null, .null, .null, .int 0, .int 0, .int 0, .int 0])), (a1, .inl (g.2.1 0, 44, .inl (fun _ => 0)))]) X q_Scene 0 3 (by decide) rfl f_Scene_9 rfl hnm rfl rfl rfl rfl (Nat.le_of_ble_eq_true rfl) rfl d_Scene_init_9 ?_
    refine dk_aload_n (k := 0) (i := 0) X 0 rfl rfl d_Scene_init_12 ?_
    refine dk_bipush (v := 44) X (by decide) d_Scene_init_13 ?_
    refine dk_newa X (N := 44) (a0 := (44, .inl fun _ => 0)) 0 rfl (fun _ _ h => h) rfl ac_int (fun _ => rfl) (by decide) (by decide) (by decide) (Nat.le_of_ble_eq_true rfl) (Nat.le_of_ble_eq_true rfl) d_Scene_init_15 (fun a2 => ?_)
    refine dk_wsE (ws' := [(a, .inr (4, [.null, .null, .null, .ref a1, .null, .null, .null, .null, .null, .null, .null, .int 0, .int 0, .null, .null, .null, .int 0, .int 0, .int 0, .int 0])), (a1, .inl (g.2.1 0, 44, .inl (fun _ => 0))), (a2, .inl (g.2.1 0, 44, .inl (fun _ => 0)))]) rfl ?_
    refine dk_putF (ws' := [(a, .inr (4, [.null, .null, .null, .ref a1, .ref a2, .null, .null, .null, .null, .null, .null, .int 0, .int 0, .null, .null, .null, .int 0, .int 0, .int 0, .int 0])), (a1, .inl (g.2.1 0, 44, .inl (fun _ => 0))), (a2, .inl (g.2.1 0, 44, .inl (fun _ => 0)))]) X q_Scene 0 4 (by decide) rfl f_Scene_15 rfl hnm rfl rfl rfl rfl (Nat.le_of_ble_eq_true rfl) rfl d_Scene_init_17 ?_
    refine dk_aload_n (k := 0) (i := 0) X 0 rfl rfl d_Scene_init_20 ?_
    refine dk_bipush (v := 44) X (by decide) d_Scene_init_21 ?_
    refine dk_newa X (N := 44) (a0 := (44, .inl fun _ => 0)) 0 rfl (fun _ _ h => h) rfl ac_int (fun _ => rfl) (by decide) (by decide) (by decide) (Nat.le_of_ble_eq_true rfl) (Nat.le_of_ble_eq_true rfl) d_Scene_init_23 (fun a3 => ?_)
    refine dk_wsE (ws' := [(a, .inr (4, [.null, .null, .null, .ref a1, .ref a2, .null, .null, .null, .null, .null, .null, .int 0, .int 0, .null, .null, .null, .int 0, .int 0, .int 0, .int 0])), (a1, .inl (g.2.1 0, 44, .inl (fun _ => 0))), (a2, .inl (g.2.1 0, 44, .inl (fun _ => 0))), (a3, .inl (g.2.1 0, 44, .inl (fun _ => 0)))]) rfl ?_
    refine dk_putF (ws' := [(a, .inr (4, [.null, .null, .null, .ref a1, .ref a2, .ref a3, .null, .null, .null, .null, .null, .int 0, .int 0, .null, .null, .null, .int 0, .int 0, .int 0, .int 0])), (a1, .inl (g.2.1 0, 44, .inl (fun _ => 0))), (a2, .inl (g.2.1 0, 44, .inl (fun _ => 0))), (a3, .inl (g.2.1 0, 44, .inl (fun _ => 0)))]) X q_Scene 0 5 (by decide) rfl f_Scene_18 rfl hnm rfl rfl rfl rfl (Nat.le_of_ble_eq_true rfl) rfl d_Scene_init_25 ?_
    refine dk_aload_n (k := 0) (i := 0) X 0 rfl rfl d_Scene_init_28 ?_
    refine dk_bipush (v := 44) X (by decide) d_Scene_init_29 ?_
    refine dk_newa X (N := 44) (a0 := (44, .inl fun _ => 0)) 0 rfl (fun _ _ h => h) rfl ac_int (fun _ => rfl) (by decide) (by decide) (by decide) (Nat.le_of_ble_eq_true rfl) (Nat.le_of_ble_eq_true rfl) d_Scene_init_31 (fun a4 => ?_)
    refine dk_wsE (ws' := [(a, .inr (4, [.null, .null, .null, .ref a1, .ref a2, .ref a3, .null, .null, .null, .null, .null, .int 0, .int 0, .null, .null, .null, .int 0, .int 0, .int 0, .int 0])), (a1, .inl (g.2.1 0, 44, .inl (fun _ => 0))), (a2, .inl (g.2.1 0, 44, .inl (fun _ => 0))), (a3, .inl (g.2.1 0, 44, .inl (fun _ => 0))), (a4, .inl (g.2.1 0, 44, .inl (fun _ => 0)))]) rfl ?_
    refine dk_putF (ws' := [(a, .inr (4, [.null, .null, .null, .ref a1, .ref a2, .ref a3, .ref a4, .null, .null, .null, .null, .int 0, .int 0, .null, .null, .null, .int 0, .int 0, .int 0, .int 0])), (a1, .inl (g.2.1 0, 44, .inl (fun _ => 0))), (a2, .inl (g.2.1 0, 44, .inl (fun _ => 0))), (a3, .inl (g.2.1 0, 44, .inl (fun _ => 0))), (a4, .inl (g.2.1 0, 44, .inl (fun _ => 0)))]) X q_Scene 0 6 (by decide) rfl f_Scene_21 rfl hnm rfl rfl rfl rfl (Nat.le_of_ble_eq_true rfl) rfl d_Scene_init_33 ?_
    refine dk_aload_n (k := 0) (i := 0) X 0 rfl rfl d_Scene_init_36 ?_
    refine dk_bipush (v := 44) X (by decide) d_Scene_init_37 ?_
    refine dk_newa X (N := 44) (a0 := (44, .inl fun _ => 0)) 0 rfl (fun _ _ h => h) rfl ac_int (fun _ => rfl) (by decide) (by decide) (by decide) (Nat.le_of_ble_eq_true rfl) (Nat.le_of_ble_eq_true rfl) d_Scene_init_39 (fun a5 => ?_)
    refine dk_wsE (ws' := [(a, .inr (4, [.null, .null, .null, .ref a1, .ref a2, .ref a3, .ref a4, .null, .null, .null, .null, .int 0, .int 0, .null, .null, .null, .int 0, .int 0, .int 0, .int 0])), (a1, .inl (g.2.1 0, 44, .inl (fun _ => 0))), (a2, .inl (g.2.1 0, 44, .inl (fun _ => 0))), (a3, .inl (g.2.1 0, 44, .inl (fun _ => 0))), (a4, .inl (g.2.1 0, 44, .inl (fun _ => 0))), (a5, .inl (g.2.1 0, 44, .inl (fun _ => 0)))]) rfl ?_
    refine dk_putF (ws' := [(a, .inr (4, [.null, .null, .null, .ref a1, .ref a2, .ref a3, .ref a4, .ref a5, .null, .null, .null, .int 0, .int 0, .null, .null, .null, .int 0, .int 0, .int 0, .int 0])), (a1, .inl (g.2.1 0, 44, .inl (fun _ => 0))), (a2, .inl (g.2.1 0, 44, .inl (fun _ => 0))), (a3, .inl (g.2.1 0, 44, .inl (fun _ => 0))), (a4, .inl (g.2.1 0, 44, .inl (fun _ => 0))), (a5, .inl (g.2.1 0, 44, .inl (fun _ => 0)))]) X q_Scene 0 7 (by decide) rfl f_Scene_24 rfl hnm rfl rfl rfl rfl (Nat.le_of_ble_eq_true rfl) rfl d_Scene_init_41 ?_
    refine dk_aload_n (k := 0) (i := 0) X 0 rfl rfl d_Scene_init_44 ?_
    refine dk_bipush (v := 44) X (by decide) d_Scene_init_45 ?_
    refine dk_newa X (N := 44) (a0 := (44, .inl fun _ => 0)) 0 rfl (fun _ _ h => h) rfl ac_int (fun _ => rfl) (by decide) (by decide) (by decide) (Nat.le_of_ble_eq_true rfl) (Nat.le_of_ble_eq_true rfl) d_Scene_init_47 (fun a6 => ?_)
    refine dk_wsE (ws' := [(a, .inr (4, [.null, .null, .null, .ref a1, .ref a2, .ref a3, .ref a4, .ref a5, .null, .null, .null, .int 0, .int 0, .null, .null, .null, .int 0, .int 0, .int 0, .int 0])), (a1, .inl (g.2.1 0, 44, .inl (fun _ => 0))), (a2, .inl (g.2.1 0, 44, .inl (fun _ => 0))), (a3, .inl (g.2.1 0, 44, .inl (fun _ => 0))), (a4, .inl (g.2.1 0, 44, .inl (fun _ => 0))), (a5, .inl (g.2.1 0, 44, .inl (fun _ => 0))), (a6, .inl (g.2.1 0, 44, .inl (fun _ => 0)))]) rfl ?_
    refine dk_putF (ws' := [(a, .inr (4, [.null, .null, .null, .ref a1, .ref a2, .ref a3, .ref a4, .ref a5, .ref a6, .null, .null, .int 0, .int 0, .null, .null, .null, .int 0, .int 0, .int 0, .int 0])), (a1, .inl (g.2.1 0, 44, .inl (fun _ => 0))), (a2, .inl (g.2.1 0, 44, .inl (fun _ => 0))), (a3, .inl (g.2.1 0, 44, .inl (fun _ => 0))), (a4, .inl (g.2.1 0, 44, .inl (fun _ => 0))), (a5, .inl (g.2.1 0, 44, .inl (fun _ => 0))), (a6, .inl (g.2.1 0, 44, .inl (fun _ => 0)))]) X q_Scene 0 8 (by decide) rfl f_Scene_27 rfl hnm rfl rfl rfl rfl (Nat.le_of_ble_eq_true rfl) rfl d_Scene_init_49 ?_
    refine dk_aload_n (k := 0) (i := 0) X 0 rfl rfl d_Scene_init_52 ?_
    refine dk_bipush (v := 44) X (by decide) d_Scene_init_53 ?_
    refine dk_newa X (N := 44) (a0 := (44, .inl fun _ => 0)) 0 rfl (fun _ _ h => h) rfl ac_int (fun _ => rfl) (by decide) (by decide) (by decide) (Nat.le_of_ble_eq_true rfl) (Nat.le_of_ble_eq_true rfl) d_Scene_init_55 (fun a7 => ?_)
    refine dk_wsE (ws' := [(a, .inr (4, [.null, .null, .null, .ref a1, .ref a2, .ref a3, .ref a4, .ref a5, .ref a6, .null, .null, .int 0, .int 0, .null, .null, .null, .int 0, .int 0, .int 0, .int 0])), (a1, .inl (g.2.1 0, 44, .inl (fun _ => 0))), (a2, .inl (g.2.1 0, 44, .inl (fun _ => 0))), (a3, .inl (g.2.1 0, 44, .inl (fun _ => 0))), (a4, .inl (g.2.1 0, 44, .inl (fun _ => 0))), (a5, .inl (g.2.1 0, 44, .inl (fun _ => 0))), (a6, .inl (g.2.1 0, 44, .inl (fun _ => 0))), (a7, .inl (g.2.1 0, 44, .inl (fun _ => 0)))]) rfl ?_
    refine dk_putF (ws' := [(a, .inr (4, [.null, .null, .null, .ref a1, .ref a2, .ref a3, .ref a4, .ref a5, .ref a6, .ref a7, .null, .int 0, .int 0, .null, .null, .null, .int 0, .int 0, .int 0, .int 0])), (a1, .inl (g.2.1 0, 44, .inl (fun _ => 0))), (a2, .inl (g.2.1 0, 44, .inl (fun _ => 0))), (a3, .inl (g.2.1 0, 44, .inl (fun _ => 0))), (a4, .inl (g.2.1 0, 44, .inl (fun _ => 0))), (a5, .inl (g.2.1 0, 44, .inl (fun _ => 0))), (a6, .inl (g.2.1 0, 44, .inl (fun _ => 0))), (a7, .inl (g.2.1 0, 44, .inl (fun _ => 0)))]) X q_Scene 0 9 (by decide) rfl f_Scene_30 rfl hnm rfl rfl rfl rfl (Nat.le_of_ble_eq_true rfl) rfl d_Scene_init_57 ?_
    refine dk_aload_n (k := 0) (i := 0) X 0 rfl rfl d_Scene_init_60 ?_
    refine dk_bipush (v := 44) X (by decide) d_Scene_init_61 ?_
    refine dk_newa X (N := 44) (a0 := (44, .inl fun _ => 0)) 1 rfl (fun _ _ h => h) rfl ac_boolean (fun _ => rfl) (by decide) (by decide) (by decide) (Nat.le_of_ble_eq_true rfl) (Nat.le_of_ble_eq_true rfl) d_Scene_init_63 (fun a8 => ?_)
    refine dk_wsE (ws' := [(a, .inr (4, [.null, .null, .null, .ref a1, .ref a2, .ref a3, .ref a4, .ref a5, .ref a6, .ref a7, .null, .int 0, .int 0, .null, .null, .null, .int 0, .int 0, .int 0, .int 0])), (a1, .inl (g.2.1 0, 44, .inl (fun _ => 0))), (a2, .inl (g.2.1 0, 44, .inl (fun _ => 0))), (a3, .inl (g.2.1 0, 44, .inl (fun _ => 0))), (a4, .inl (g.2.1 0, 44, .inl (fun _ => 0))), (a5, .inl (g.2.1 0, 44, .inl (fun _ => 0))), (a6, .inl (g.2.1 0, 44, .inl (fun _ => 0))), (a7, .inl (g.2.1 0, 44, .inl (fun _ => 0))), (a8, .inl (g.2.1 1, 44, .inl (fun _ => 0)))]) rfl ?_
    refine dk_putF (ws' := [(a, .inr (4, [.null, .null, .null, .ref a1, .ref a2, .ref a3, .ref a4, .ref a5, .ref a6, .ref a7, .ref a8, .int 0, .int 0, .null, .null, .null, .int 0, .int 0, .int 0, .int 0])), (a1, .inl (g.2.1 0, 44, .inl (fun _ => 0))), (a2, .inl (g.2.1 0, 44, .inl (fun _ => 0))), (a3, .inl (g.2.1 0, 44, .inl (fun _ => 0))), (a4, .inl (g.2.1 0, 44, .inl (fun _ => 0))), (a5, .inl (g.2.1 0, 44, .inl (fun _ => 0))), (a6, .inl (g.2.1 0, 44, .inl (fun _ => 0))), (a7, .inl (g.2.1 0, 44, .inl (fun _ => 0))), (a8, .inl (g.2.1 1, 44, .inl (fun _ => 0)))]) X q_Scene 0 10 (by decide) rfl f_Scene_33 rfl hnm rfl rfl rfl rfl (Nat.le_of_ble_eq_true rfl) rfl d_Scene_init_65 ?_
    refine dk_aload_n (k := 0) (i := 0) X 0 rfl rfl d_Scene_init_68 ?_
    refine dk_bipush (v := 6) X (by decide) d_Scene_init_69 ?_
    refine dk_newa X (N := 6) (a0 := (6, .inl fun _ => 0)) 0 rfl (fun _ _ h => h) rfl ac_int (fun _ => rfl) (by decide) (by decide) (by decide) (Nat.le_of_ble_eq_true rfl) (Nat.le_of_ble_eq_true rfl) d_Scene_init_71 (fun a9 => ?_)
    refine dk_wsE (ws' := [(a, .inr (4, [.null, .null, .null, .ref a1, .ref a2, .ref a3, .ref a4, .ref a5, .ref a6, .ref a7, .ref a8, .int 0, .int 0, .null, .null, .null, .int 0, .int 0, .int 0, .int 0])), (a1, .inl (g.2.1 0, 44, .inl (fun _ => 0))), (a2, .inl (g.2.1 0, 44, .inl (fun _ => 0))), (a3, .inl (g.2.1 0, 44, .inl (fun _ => 0))), (a4, .inl (g.2.1 0, 44, .inl (fun _ => 0))), (a5, .inl (g.2.1 0, 44, .inl (fun _ => 0))), (a6, .inl (g.2.1 0, 44, .inl (fun _ => 0))), (a7, .inl (g.2.1 0, 44, .inl (fun _ => 0))), (a8, .inl (g.2.1 1, 44, .inl (fun _ => 0))), (a9, .inl (g.2.1 0, 6, .inl (fun _ => 0)))]) rfl ?_
    refine dk_putF (ws' := [(a, .inr (4, [.null, .null, .null, .ref a1, .ref a2, .ref a3, .ref a4, .ref a5, .ref a6, .ref a7, .ref a8, .int 0, .int 0, .ref a9, .null, .null, .int 0, .int 0, .int 0, .int 0])), (a1, .inl (g.2.1 0, 44, .inl (fun _ => 0))), (a2, .inl (g.2.1 0, 44, .inl (fun _ => 0))), (a3, .inl (g.2.1 0, 44, .inl (fun _ => 0))), (a4, .inl (g.2.1 0, 44, .inl (fun _ => 0))), (a5, .inl (g.2.1 0, 44, .inl (fun _ => 0))), (a6, .inl (g.2.1 0, 44, .inl (fun _ => 0))), (a7, .inl (g.2.1 0, 44, .inl (fun _ => 0))), (a8, .inl (g.2.1 1, 44, .inl (fun _ => 0))), (a9, .inl (g.2.1 0, 6, .inl (fun _ => 0)))]) X q_Scene 0 13 (by decide) rfl f_Scene_37 rfl hnm rfl rfl rfl rfl (Nat.le_of_ble_eq_true rfl) rfl d_Scene_init_73 ?_
    refine dk_aload_n (k := 0) (i := 0) X 0 rfl rfl d_Scene_init_76 ?_
    refine dk_bipush (v := 6) X (by decide) d_Scene_init_77 ?_
    refine dk_newa X (N := 6) (a0 := (6, .inl fun _ => 0)) 0 rfl (fun _ _ h => h) rfl ac_int (fun _ => rfl) (by decide) (by decide) (by decide) (Nat.le_of_ble_eq_true rfl) (Nat.le_of_ble_eq_true rfl) d_Scene_init_79 (fun a10 => ?_)
    refine dk_wsE (ws' := [(a, .inr (4, [.null, .null, .null, .ref a1, .ref a2, .ref a3, .ref a4, .ref a5, .ref a6, .ref a7, .ref a8, .int 0, .int 0, .ref a9, .null, .null, .int 0, .int 0, .int 0, .int 0])), (a1, .inl (g.2.1 0, 44, .inl (fun _ => 0))), (a2, .inl (g.2.1 0, 44, .inl (fun _ => 0))), (a3, .inl (g.2.1 0, 44, .inl (fun _ => 0))), (a4, .inl (g.2.1 0, 44, .inl (fun _ => 0))), (a5, .inl (g.2.1 0, 44, .inl (fun _ => 0))), (a6, .inl (g.2.1 0, 44, .inl (fun _ => 0))), (a7, .inl (g.2.1 0, 44, .inl (fun _ => 0))), (a8, .inl (g.2.1 1, 44, .inl (fun _ => 0))), (a9, .inl (g.2.1 0, 6, .inl (fun _ => 0))), (a10, .inl (g.2.1 0, 6, .inl (fun _ => 0)))]) rfl ?_
    refine dk_putF (ws' := [(a, .inr (4, [.null, .null, .null, .ref a1, .ref a2, .ref a3, .ref a4, .ref a5, .ref a6, .ref a7, .ref a8, .int 0, .int 0, .ref a9, .ref a10, .null, .int 0, .int 0, .int 0, .int 0])), (a1, .inl (g.2.1 0, 44, .inl (fun _ => 0))), (a2, .inl (g.2.1 0, 44, .inl (fun _ => 0))), (a3, .inl (g.2.1 0, 44, .inl (fun _ => 0))), (a4, .inl (g.2.1 0, 44, .inl (fun _ => 0))), (a5, .inl (g.2.1 0, 44, .inl (fun _ => 0))), (a6, .inl (g.2.1 0, 44, .inl (fun _ => 0))), (a7, .inl (g.2.1 0, 44, .inl (fun _ => 0))), (a8, .inl (g.2.1 1, 44, .inl (fun _ => 0))), (a9, .inl (g.2.1 0, 6, .inl (fun _ => 0))), (a10, .inl (g.2.1 0, 6, .inl (fun _ => 0)))]) X q_Scene 0 14 (by decide) rfl f_Scene_40 rfl hnm rfl rfl rfl rfl (Nat.le_of_ble_eq_true rfl) rfl d_Scene_init_81 ?_
    refine dk_aload_n (k := 0) (i := 0) X 0 rfl rfl d_Scene_init_84 ?_
    refine dk_bipush (v := 6) X (by decide) d_Scene_init_85 ?_
    refine dk_newa X (N := 6) (a0 := (6, .inl fun _ => 0)) 1 rfl (fun _ _ h => h) rfl ac_boolean (fun _ => rfl) (by decide) (by decide) (by decide) (Nat.le_of_ble_eq_true rfl) (Nat.le_of_ble_eq_true rfl) d_Scene_init_87 (fun a11 => ?_)
    refine dk_wsE (ws' := [(a, .inr (4, [.null, .null, .null, .ref a1, .ref a2, .ref a3, .ref a4, .ref a5, .ref a6, .ref a7, .ref a8, .int 0, .int 0, .ref a9, .ref a10, .null, .int 0, .int 0, .int 0, .int 0])), (a1, .inl (g.2.1 0, 44, .inl (fun _ => 0))), (a2, .inl (g.2.1 0, 44, .inl (fun _ => 0))), (a3, .inl (g.2.1 0, 44, .inl (fun _ => 0))), (a4, .inl (g.2.1 0, 44, .inl (fun _ => 0))), (a5, .inl (g.2.1 0, 44, .inl (fun _ => 0))), (a6, .inl (g.2.1 0, 44, .inl (fun _ => 0))), (a7, .inl (g.2.1 0, 44, .inl (fun _ => 0))), (a8, .inl (g.2.1 1, 44, .inl (fun _ => 0))), (a9, .inl (g.2.1 0, 6, .inl (fun _ => 0))), (a10, .inl (g.2.1 0, 6, .inl (fun _ => 0))), (a11, .inl (g.2.1 1, 6, .inl (fun _ => 0)))]) rfl ?_
    refine dk_putF (ws' := [(a, .inr (4, [.null, .null, .null, .ref a1, .ref a2, .ref a3, .ref a4, .ref a5, .ref a6, .ref a7, .ref a8, .int 0, .int 0, .ref a9, .ref a10, .ref a11, .int 0, .int 0, .int 0, .int 0])), (a1, .inl (g.2.1 0, 44, .inl (fun _ => 0))), (a2, .inl (g.2.1 0, 44, .inl (fun _ => 0))), (a3, .inl (g.2.1 0, 44, .inl (fun _ => 0))), (a4, .inl (g.2.1 0, 44, .inl (fun _ => 0))), (a5, .inl (g.2.1 0, 44, .inl (fun _ => 0))), (a6, .inl (g.2.1 0, 44, .inl (fun _ => 0))), (a7, .inl (g.2.1 0, 44, .inl (fun _ => 0))), (a8, .inl (g.2.1 1, 44, .inl (fun _ => 0))), (a9, .inl (g.2.1 0, 6, .inl (fun _ => 0))), (a10, .inl (g.2.1 0, 6, .inl (fun _ => 0))), (a11, .inl (g.2.1 1, 6, .inl (fun _ => 0)))]) X q_Scene 0 15 (by decide) rfl f_Scene_43 rfl hnm rfl rfl rfl rfl (Nat.le_of_ble_eq_true rfl) rfl d_Scene_init_89 ?_
    refine dk_aload_n (k := 0) (i := 0) X 0 rfl rfl d_Scene_init_92 ?_
    refine dk_aload_n (k := 1) (i := 1) X 1 rfl rfl d_Scene_init_93 ?_
    refine dk_putF (ws' := [(a, .inr (4, [.ref x, .null, .null, .ref a1, .ref a2, .ref a3, .ref a4, .ref a5, .ref a6, .ref a7, .ref a8, .int 0, .int 0, .ref a9, .ref a10, .ref a11, .int 0, .int 0, .int 0, .int 0])), (a1, .inl (g.2.1 0, 44, .inl (fun _ => 0))), (a2, .inl (g.2.1 0, 44, .inl (fun _ => 0))), (a3, .inl (g.2.1 0, 44, .inl (fun _ => 0))), (a4, .inl (g.2.1 0, 44, .inl (fun _ => 0))), (a5, .inl (g.2.1 0, 44, .inl (fun _ => 0))), (a6, .inl (g.2.1 0, 44, .inl (fun _ => 0))), (a7, .inl (g.2.1 0, 44, .inl (fun _ => 0))), (a8, .inl (g.2.1 1, 44, .inl (fun _ => 0))), (a9, .inl (g.2.1 0, 6, .inl (fun _ => 0))), (a10, .inl (g.2.1 0, 6, .inl (fun _ => 0))), (a11, .inl (g.2.1 1, 6, .inl (fun _ => 0)))]) X q_Scene 0 0 (by decide) rfl f_Scene_46 rfl hnm rfl rfl rfl rfl (Nat.le_of_ble_eq_true rfl) rfl d_Scene_init_94 ?_
    refine dk_aload_n (k := 0) (i := 0) X 0 rfl rfl d_Scene_init_97 ?_
    refine dk_aload_n (k := 2) (i := 2) X 2 rfl rfl d_Scene_init_98 ?_
    refine dk_putF (ws' := [(a, .inr (4, [.ref x, .ref y, .null, .ref a1, .ref a2, .ref a3, .ref a4, .ref a5, .ref a6, .ref a7, .ref a8, .int 0, .int 0, .ref a9, .ref a10, .ref a11, .int 0, .int 0, .int 0, .int 0])), (a1, .inl (g.2.1 0, 44, .inl (fun _ => 0))), (a2, .inl (g.2.1 0, 44, .inl (fun _ => 0))), (a3, .inl (g.2.1 0, 44, .inl (fun _ => 0))), (a4, .inl (g.2.1 0, 44, .inl (fun _ => 0))), (a5, .inl (g.2.1 0, 44, .inl (fun _ => 0))), (a6, .inl (g.2.1 0, 44, .inl (fun _ => 0))), (a7, .inl (g.2.1 0, 44, .inl (fun _ => 0))), (a8, .inl (g.2.1 1, 44, .inl (fun _ => 0))), (a9, .inl (g.2.1 0, 6, .inl (fun _ => 0))), (a10, .inl (g.2.1 0, 6, .inl (fun _ => 0))), (a11, .inl (g.2.1 1, 6, .inl (fun _ => 0)))]) X q_Scene 0 1 (by decide) rfl f_Scene_50 rfl hnm rfl rfl rfl rfl (Nat.le_of_ble_eq_true rfl) rfl d_Scene_init_99 ?_
    refine dk_aload_n (k := 0) (i := 0) X 0 rfl rfl d_Scene_init_102 ?_
    refine dk_aload_n (k := 3) (i := 3) X 3 rfl rfl d_Scene_init_103 ?_
    refine dk_putF (ws' := [(a, .inr (4, [.ref x, .ref y, .ref z, .ref a1, .ref a2, .ref a3, .ref a4, .ref a5, .ref a6, .ref a7, .ref a8, .int 0, .int 0, .ref a9, .ref a10, .ref a11, .int 0, .int 0, .int 0, .int 0])), (a1, .inl (g.2.1 0, 44, .inl (fun _ => 0))), (a2, .inl (g.2.1 0, 44, .inl (fun _ => 0))), (a3, .inl (g.2.1 0, 44, .inl (fun _ => 0))), (a4, .inl (g.2.1 0, 44, .inl (fun _ => 0))), (a5, .inl (g.2.1 0, 44, .inl (fun _ => 0))), (a6, .inl (g.2.1 0, 44, .inl (fun _ => 0))), (a7, .inl (g.2.1 0, 44, .inl (fun _ => 0))), (a8, .inl (g.2.1 1, 44, .inl (fun _ => 0))), (a9, .inl (g.2.1 0, 6, .inl (fun _ => 0))), (a10, .inl (g.2.1 0, 6, .inl (fun _ => 0))), (a11, .inl (g.2.1 1, 6, .inl (fun _ => 0)))]) X q_Scene 0 2 (by decide) rfl f_Scene_54 rfl hnm rfl rfl rfl rfl (Nat.le_of_ble_eq_true rfl) rfl d_Scene_init_104 ?_
    exact hR (fun k => [a1, a2, a3, a4, a5, a6, a7, a8, a9, a10, a11].getD k 0) _ _ d_Scene_init_107)
abbrev rm_Sheet_init : Room := { frames := 1, cells := 1, slots := 40, locals := 20 }
def w_Sheet_init (g : dk_G) (a  : Nat) (u : Nat → Nat) : va_W := [(a, .inr (6, [.ref (u 0), .int (-1 : Int32), .int 0])), (u 0, .inl (g.2.1 0, 40, .inl (fun _ => 0)))]
theorem c_Sheet_init (l : Launch) (g : dk_G) (a : Nat) : dk_Nv l g y_Sheet_init b_Sheet_init 1 rm_Sheet_init [.ref a] dk_EO [(a, .inr (6, [.null, .int 0, .int 0]))] (Nat → Nat) (w_Sheet_init g a ) 1 40 :=
  dk_enterN (by decide) (Nat.le_of_ble_eq_true rfl) (fun p e s m args below meth c A Q X hE hnm hR => by
    refine dk_aload_n (k := 0) (i := 0) X 0 rfl rfl d_Sheet_init_0 ?_
    refine dk_objI X mo_Sheet w_oi.1 w_oi.2 (Nat.le_of_ble_eq_true rfl) (Nat.le_of_ble_eq_true rfl) d_Sheet_init_1 ?_
    refine dk_aload_n (k := 0) (i := 0) X 0 rfl rfl d_Sheet_init_4 ?_
    refine dk_bipush (v := 40) X (by decide) d_Sheet_init_5 ?_
    refine dk_newa X (N := 40) (a0 := (40, .inl fun _ => 0)) 0 rfl (fun _ _ h => h) rfl ac_int (fun _ => rfl) (by decide) (by decide) (by decide) (Nat.le_of_ble_eq_true rfl) (Nat.le_of_ble_eq_true rfl) d_Sheet_init_7 (fun a1 => ?_)
    refine dk_wsE (ws' := [(a, .inr (6, [.null, .int 0, .int 0])), (a1, .inl (g.2.1 0, 40, .inl (fun _ => 0)))]) rfl ?_
    refine dk_putF (ws' := [(a, .inr (6, [.ref a1, .int 0, .int 0])), (a1, .inl (g.2.1 0, 40, .inl (fun _ => 0)))]) X q_Sheet 0 0 (by decide) rfl f_Sheet_9 rfl hnm rfl rfl rfl rfl (Nat.le_of_ble_eq_true rfl) rfl d_Sheet_init_9 ?_
    refine dk_aload_n (k := 0) (i := 0) X 0 rfl rfl d_Sheet_init_12 ?_
    refine dk_iconst (v := -1) X (by decide) d_Sheet_init_13 ?_
    refine dk_put (ws' := [(a, .inr (6, [.ref a1, .int (-1 : Int32), .int 0])), (a1, .inl (g.2.1 0, 40, .inl (fun _ => 0)))]) X q_Sheet 0 1 (by decide) rfl f_Sheet_15 rfl rfl rfl rfl (Nat.le_of_ble_eq_true rfl) rfl d_Sheet_init_14 ?_
    exact hR (fun k => [a1].getD k 0) _ _ d_Sheet_init_17)
abbrev rm_Image_init : Room := { frames := 1, cells := 2, slots := 40, locals := 20 }
def w_Image_init (g : dk_G) (a  : Nat) (u : Nat → Nat) : va_W := [(a, .inr (7, [.int 0, .int 0, .ref (u 0), .ref (u 1), .int 0, .int 0])), (u 0, .inl (g.2.1 0, 8, .inl (fun _ => 0))), (u 1, .inl (g.2.1 0, 32, .inl (fun _ => 0)))]
theorem c_Image_init (l : Launch) (g : dk_G) (a : Nat) : dk_Nv l g y_Image_init b_Image_init 1 rm_Image_init [.ref a] dk_EO [(a, .inr (7, [.int 0, .int 0, .null, .null, .int 0, .int 0]))] (Nat → Nat) (w_Image_init g a ) 2 40 :=
  dk_enterN (by decide) (Nat.le_of_ble_eq_true rfl) (fun p e s m args below meth c A Q X hE hnm hR => by
    refine dk_aload_n (k := 0) (i := 0) X 0 rfl rfl d_Image_init_0 ?_
    refine dk_objI X mo_Image w_oi.1 w_oi.2 (Nat.le_of_ble_eq_true rfl) (Nat.le_of_ble_eq_true rfl) d_Image_init_1 ?_
    refine dk_aload_n (k := 0) (i := 0) X 0 rfl rfl d_Image_init_4 ?_
    refine dk_bipush (v := 8) X (by decide) d_Image_init_5 ?_
    refine dk_newa X (N := 8) (a0 := (8, .inl fun _ => 0)) 0 rfl (fun _ _ h => h) rfl ac_int (fun _ => rfl) (by decide) (by decide) (by decide) (Nat.le_of_ble_eq_true rfl) (Nat.le_of_ble_eq_true rfl) d_Image_init_7 (fun a1 => ?_)
    refine dk_wsE (ws' := [(a, .inr (7, [.int 0, .int 0, .null, .null, .int 0, .int 0])), (a1, .inl (g.2.1 0, 8, .inl (fun _ => 0)))]) rfl ?_
    refine dk_putF (ws' := [(a, .inr (7, [.int 0, .int 0, .ref a1, .null, .int 0, .int 0])), (a1, .inl (g.2.1 0, 8, .inl (fun _ => 0)))]) X q_Image 0 2 (by decide) rfl f_Image_9 rfl hnm rfl rfl rfl rfl (Nat.le_of_ble_eq_true rfl) rfl d_Image_init_9 ?_
    refine dk_aload_n (k := 0) (i := 0) X 0 rfl rfl d_Image_init_12 ?_
    refine dk_bipush (v := 32) X (by decide) d_Image_init_13 ?_
    refine dk_newa X (N := 32) (a0 := (32, .inl fun _ => 0)) 0 rfl (fun _ _ h => h) rfl ac_int (fun _ => rfl) (by decide) (by decide) (by decide) (Nat.le_of_ble_eq_true rfl) (Nat.le_of_ble_eq_true rfl) d_Image_init_15 (fun a2 => ?_)
    refine dk_wsE (ws' := [(a, .inr (7, [.int 0, .int 0, .ref a1, .null, .int 0, .int 0])), (a1, .inl (g.2.1 0, 8, .inl (fun _ => 0))), (a2, .inl (g.2.1 0, 32, .inl (fun _ => 0)))]) rfl ?_
    refine dk_putF (ws' := [(a, .inr (7, [.int 0, .int 0, .ref a1, .ref a2, .int 0, .int 0])), (a1, .inl (g.2.1 0, 8, .inl (fun _ => 0))), (a2, .inl (g.2.1 0, 32, .inl (fun _ => 0)))]) X q_Image 0 3 (by decide) rfl f_Image_15 rfl hnm rfl rfl rfl rfl (Nat.le_of_ble_eq_true rfl) rfl d_Image_init_17 ?_
    exact hR (fun k => [a1, a2].getD k 0) _ _ d_Image_init_20)
