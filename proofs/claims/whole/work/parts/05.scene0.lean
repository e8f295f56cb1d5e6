abbrev b_Scene_mayFollow : ByteArray := prog_7_method_22_code
def y_Scene_mayFollow : MethodName := ⟨R_Scene, "mayFollow", "(III)Z"⟩
theorem d_Scene_mayFollow_0 : decode b_Scene_mayFollow 0 = .ok (.aload_n 0, 1) := by decide +kernel
theorem d_Scene_mayFollow_1 : decode b_Scene_mayFollow 1 = .ok (.getfield 46, 3) := by decide +kernel
theorem d_Scene_mayFollow_4 : decode b_Scene_mayFollow 4 = .ok (.iload_n 2, 1) := by decide +kernel
theorem d_Scene_mayFollow_5 : decode b_Scene_mayFollow 5 = .ok (.invokevirtual 139, 3) := by decide +kernel
theorem d_Scene_mayFollow_8 : decode b_Scene_mayFollow 8 = .ok (.istore 4, 2) := by decide +kernel
theorem d_Scene_mayFollow_10 : decode b_Scene_mayFollow 10 = .ok (.aload_n 0, 1) := by decide +kernel
theorem d_Scene_mayFollow_11 : decode b_Scene_mayFollow 11 = .ok (.getfield 54, 3) := by decide +kernel
theorem d_Scene_mayFollow_14 : decode b_Scene_mayFollow 14 = .ok (.iconst (-1), 1) := by decide +kernel
theorem d_Scene_mayFollow_15 : decode b_Scene_mayFollow 15 = .ok (.iconst (-1), 1) := by decide +kernel
theorem d_Scene_mayFollow_16 : decode b_Scene_mayFollow 16 = .ok (.invokevirtual 163, 3) := by decide +kernel
theorem d_Scene_mayFollow_19 : decode b_Scene_mayFollow 19 = .ok (.aload_n 0, 1) := by decide +kernel
theorem d_Scene_mayFollow_20 : decode b_Scene_mayFollow 20 = .ok (.getfield 54, 3) := by decide +kernel
theorem d_Scene_mayFollow_23 : decode b_Scene_mayFollow 23 = .ok (.bipush (-2), 2) := by decide +kernel
theorem d_Scene_mayFollow_25 : decode b_Scene_mayFollow 25 = .ok (.iconst 0, 1) := by decide +kernel
theorem d_Scene_mayFollow_26 : decode b_Scene_mayFollow 26 = .ok (.invokevirtual 163, 3) := by decide +kernel
theorem d_Scene_mayFollow_29 : decode b_Scene_mayFollow 29 = .ok (.aload_n 0, 1) := by decide +kernel
theorem d_Scene_mayFollow_30 : decode b_Scene_mayFollow 30 = .ok (.getfield 54, 3) := by decide +kernel
theorem d_Scene_mayFollow_33 : decode b_Scene_mayFollow 33 = .ok (.bipush (-3), 2) := by decide +kernel
theorem d_Scene_mayFollow_35 : decode b_Scene_mayFollow 35 = .ok (.iload 4, 2) := by decide +kernel
theorem d_Scene_mayFollow_37 : decode b_Scene_mayFollow 37 = .ok (.iconst 1, 1) := by decide +kernel
theorem d_Scene_mayFollow_38 : decode b_Scene_mayFollow 38 = .ok (.iadd, 1) := by decide +kernel
theorem d_Scene_mayFollow_39 : decode b_Scene_mayFollow 39 = .ok (.invokevirtual 163, 3) := by decide +kernel
theorem d_Scene_mayFollow_42 : decode b_Scene_mayFollow 42 = .ok (.aload_n 0, 1) := by decide +kernel
theorem d_Scene_mayFollow_43 : decode b_Scene_mayFollow 43 = .ok (.getfield 54, 3) := by decide +kernel
theorem d_Scene_mayFollow_46 : decode b_Scene_mayFollow 46 = .ok (.bipush (-4), 2) := by decide +kernel
theorem d_Scene_mayFollow_48 : decode b_Scene_mayFollow 48 = .ok (.iload 4, 2) := by decide +kernel
theorem d_Scene_mayFollow_50 : decode b_Scene_mayFollow 50 = .ok (.iload_n 1, 1) := by decide +kernel
theorem d_Scene_mayFollow_51 : decode b_Scene_mayFollow 51 = .ok (.if_icmp .ne 7, 3) := by decide +kernel
theorem d_Scene_mayFollow_54 : decode b_Scene_mayFollow 54 = .ok (.iconst 1, 1) := by decide +kernel
theorem d_Scene_mayFollow_55 : decode b_Scene_mayFollow 55 = .ok (.goto 4, 3) := by decide +kernel
theorem d_Scene_mayFollow_58 : decode b_Scene_mayFollow 58 = .ok (.iconst 0, 1) := by decide +kernel
theorem d_Scene_mayFollow_59 : decode b_Scene_mayFollow 59 = .ok (.invokevirtual 163, 3) := by decide +kernel
theorem d_Scene_mayFollow_62 : decode b_Scene_mayFollow 62 = .ok (.aload_n 0, 1) := by decide +kernel
theorem d_Scene_mayFollow_63 : decode b_Scene_mayFollow 63 = .ok (.getfield 54, 3) := by decide +kernel
theorem d_Scene_mayFollow_66 : decode b_Scene_mayFollow 66 = .ok (.bipush (-5), 2) := by decide +kernel
theorem d_Scene_mayFollow_68 : decode b_Scene_mayFollow 68 = .ok (.aload_n 0, 1) := by decide +kernel
theorem d_Scene_mayFollow_69 : decode b_Scene_mayFollow 69 = .ok (.getfield 46, 3) := by decide +kernel
theorem d_Scene_mayFollow_72 : decode b_Scene_mayFollow 72 = .ok (.iload_n 3, 1) := by decide +kernel
theorem d_Scene_mayFollow_73 : decode b_Scene_mayFollow 73 = .ok (.invokevirtual 86, 3) := by decide +kernel
theorem d_Scene_mayFollow_76 : decode b_Scene_mayFollow 76 = .ok (.ifCond .eq 7, 3) := by decide +kernel
theorem d_Scene_mayFollow_79 : decode b_Scene_mayFollow 79 = .ok (.iconst 1, 1) := by decide +kernel
theorem d_Scene_mayFollow_80 : decode b_Scene_mayFollow 80 = .ok (.goto 4, 3) := by decide +kernel
theorem d_Scene_mayFollow_83 : decode b_Scene_mayFollow 83 = .ok (.iconst 0, 1) := by decide +kernel
theorem d_Scene_mayFollow_84 : decode b_Scene_mayFollow 84 = .ok (.invokevirtual 163, 3) := by decide +kernel
theorem d_Scene_mayFollow_87 : decode b_Scene_mayFollow 87 = .ok (.aload_n 0, 1) := by decide +kernel
theorem d_Scene_mayFollow_88 : decode b_Scene_mayFollow 88 = .ok (.getfield 54, 3) := by decide +kernel
theorem d_Scene_mayFollow_91 : decode b_Scene_mayFollow 91 = .ok (.bipush (-6), 2) := by decide +kernel
theorem d_Scene_mayFollow_93 : decode b_Scene_mayFollow 93 = .ok (.iload_n 1, 1) := by decide +kernel
theorem d_Scene_mayFollow_94 : decode b_Scene_mayFollow 94 = .ok (.invokevirtual 163, 3) := by decide +kernel
theorem d_Scene_mayFollow_97 : decode b_Scene_mayFollow 97 = .ok (.aload_n 0, 1) := by decide +kernel
theorem d_Scene_mayFollow_98 : decode b_Scene_mayFollow 98 = .ok (.getfield 54, 3) := by decide +kernel
theorem d_Scene_mayFollow_101 : decode b_Scene_mayFollow 101 = .ok (.aload_n 0, 1) := by decide +kernel
theorem d_Scene_mayFollow_102 : decode b_Scene_mayFollow 102 = .ok (.getfield 54, 3) := by decide +kernel
theorem d_Scene_mayFollow_105 : decode b_Scene_mayFollow 105 = .ok (.getfield 168, 3) := by decide +kernel
theorem d_Scene_mayFollow_108 : decode b_Scene_mayFollow 108 = .ok (.getfield 172, 3) := by decide +kernel
theorem d_Scene_mayFollow_111 : decode b_Scene_mayFollow 111 = .ok (.invokevirtual 177, 3) := by decide +kernel
theorem d_Scene_mayFollow_114 : decode b_Scene_mayFollow 114 = .ok (.ifCond .eq 7, 3) := by decide +kernel
theorem d_Scene_mayFollow_117 : decode b_Scene_mayFollow 117 = .ok (.iconst 1, 1) := by decide +kernel
theorem d_Scene_mayFollow_118 : decode b_Scene_mayFollow 118 = .ok (.goto 4, 3) := by decide +kernel
theorem d_Scene_mayFollow_121 : decode b_Scene_mayFollow 121 = .ok (.iconst 0, 1) := by decide +kernel
theorem d_Scene_mayFollow_122 : decode b_Scene_mayFollow 122 = .ok (.ireturn, 1) := by decide +kernel
theorem v_Scene_mayFollow : dk_Yv y_Scene_mayFollow b_Scene_mayFollow 5 (some .boolean) 3 := ⟨dk_in (List.mem_of_getElem? (i := 652) (by decide +kernel)) rfl, dk_in (List.mem_of_getElem? (i := 653) (by decide +kernel)) rfl, dk_in (List.mem_of_getElem? (i := 72) (by decide +kernel)) rfl, dk_in (List.mem_of_getElem? (i := 654) (by decide +kernel)) rfl, by decide +kernel, by decide +kernel, by decide +kernel⟩
abbrev rm_Scene_mayFollow : Room := { frames := 2, cells := 0, slots := 0, locals := 46 }
theorem f_Scene_168 : Cond.fieldLink R_Scene 168 (T_Scales 2).1 (T_Scales 2).2.1 (T_Scales 2).2.2.1 ∈ dk_tb := dk_in (List.mem_of_getElem? (i := 235) (by decide +kernel)) rfl
theorem f_Scene_172 : Cond.fieldLink R_Scene 172 (T_Text 1).1 (T_Text 1).2.1 (T_Text 1).2.2.1 ∈ dk_tb := dk_in (List.mem_of_getElem? (i := 220) (by decide +kernel)) rfl
theorem f_Scene_46 : Cond.fieldLink R_Scene 46 (T_Scene 0).1 (T_Scene 0).2.1 (T_Scene 0).2.2.1 ∈ dk_tb := dk_in (List.mem_of_getElem? (i := 250) (by decide +kernel)) rfl
theorem f_Scene_54 : Cond.fieldLink R_Scene 54 (T_Scene 2).1 (T_Scene 2).2.1 (T_Scene 2).2.2.1 ∈ dk_tb := dk_in (List.mem_of_getElem? (i := 252) (by decide +kernel)) rfl
theorem m_Scene_139 : Cond.methodLink R_Scene 139 y_Land_ownerOf ∈ dk_tb := dk_in (List.mem_of_getElem? (i := 655) (by decide +kernel)) rfl
theorem m_Scene_163 : Cond.methodLink R_Scene 163 y_Scales_setName ∈ dk_tb := dk_in (List.mem_of_getElem? (i := 659) (by decide +kernel)) rfl
theorem m_Scene_177 : Cond.methodLink R_Scene 177 y_Scales_value ∈ dk_tb := dk_in (List.mem_of_getElem? (i := 667) (by decide +kernel)) rfl
theorem m_Scene_86 : Cond.methodLink R_Scene 86 y_Land_isTame ∈ dk_tb := dk_in (List.mem_of_getElem? (i := 663) (by decide +kernel)) rfl
def B_Scene_mayFollow_84 (n T : Nat)  (x1 : Int32) (u1 : Int32) (u2 : Int32) (S : dk_S) : Option (Int32 × dk_S) :=
  dk_cv (F_Scales_setName n T u1 u2 S) fun S1 => dk_cv (F_Scales_setName n T (-6 : Int32) x1 S1) fun S3 => dk_t T S3 fun t5 => dk_c (F_Scales_value n T t5 1 S3) fun r7 S6 => if r7 = 0 then (dk_b (0 : Int32) (some ((0 : Int32), S6))) else (dk_b (1 : Int32) (some ((1 : Int32), S6)))
set_option maxRecDepth 20000 in
theorem kb_Scene_mayFollow_84 {p : Program} {l : Launch} {e : Env} {s : State} {m : MethodId} {args : Array Value} {below : List Frame} {meth : Method} {c : Code} {g : dk_G} {A : Nat → Prop} {Q : State → Prop} {ad : Nat → Nat} {T : Nat} {n : Nat} {res : (Int32 × dk_S)} (X : dk_X p s m args meth c b_Scene_mayFollow 5 R_Scene (some .boolean) g A) (hR : dk_Ri p l e rm_Scene_mayFollow s m args below meth c g A Q 5 b_Scene_mayFollow (some .boolean) (wC g ad T) res)  {x1 : Int32} {u1 : Int32} {u2 : Int32} {S : dk_S}  (hF : B_Scene_mayFollow_84 n T  x1 u1 u2 S = some res) : dk_J p l e rm_Scene_mayFollow s m args below meth c g A Q 5 0 0 84 [(0, .ref (ad 18)), (1, .int x1)] [.int u2, .int u1, .ref (ad 15)] (wC g ad T S) := by
  unfold B_Scene_mayFollow_84 at hF
  refine dk_callVv X v_Scales_setName [.int u1, .int u2] (c_Scales_setName l g ad T n u1 u2 S) 15 (oC_Scales g ad T S) rfl rfl m_Scene_163 rfl rfl ⟨rfl, rfl, Nat.le_of_ble_eq_true rfl, Nat.le_of_ble_eq_true rfl, Nat.le_refl _, Nat.le_refl _⟩ (Nat.le_of_ble_eq_true rfl) d_Scene_mayFollow_84 hF (fun S1 hF => ?_)
  refine dk_aload_n (k := 0) (i := 0) X 0 rfl rfl d_Scene_mayFollow_87 ?_
  refine dk_get X q_Scene 18 2 (by decide) (oC_Scene g ad T S1) rfl f_Scene_54 d_Scene_mayFollow_88 ?_
  refine dk_bipush (v := -6) X (by decide) d_Scene_mayFollow_91 ?_
  refine dk_iload_n (k := 1) (i := 1) X 1 rfl rfl d_Scene_mayFollow_93 ?_
  refine dk_callVv X v_Scales_setName [.int (-6 : Int32), .int x1] (c_Scales_setName l g ad T n (-6 : Int32) x1 S1) 15 (oC_Scales g ad T S1) rfl rfl m_Scene_163 rfl rfl ⟨rfl, rfl, Nat.le_of_ble_eq_true rfl, Nat.le_of_ble_eq_true rfl, Nat.le_refl _, Nat.le_refl _⟩ (Nat.le_of_ble_eq_true rfl) d_Scene_mayFollow_94 hF (fun S3 hF => ?_)
  refine dk_aload_n (k := 0) (i := 0) X 0 rfl rfl d_Scene_mayFollow_97 ?_
  refine dk_get X q_Scene 18 2 (by decide) (oC_Scene g ad T S3) rfl f_Scene_54 d_Scene_mayFollow_98 ?_
  refine dk_aload_n (k := 0) (i := 0) X 0 rfl rfl d_Scene_mayFollow_101 ?_
  refine dk_get X q_Scene 18 2 (by decide) (oC_Scene g ad T S3) rfl f_Scene_54 d_Scene_mayFollow_102 ?_
  obtain ⟨t5, ht5, et5, hF⟩ := dk_t_out hF
  refine dk_get X q_Scales 15 2 (by decide) (oC_Scales g ad T S3) (v := .ref (ad (43 + 3 * t5))) (by rw [et5]; rfl) f_Scene_168 d_Scene_mayFollow_105 ?_
  refine dk_get X q_Text (43 + 3 * t5 + 0) 1 (by decide) (oC_text g ad T S3 t5 ht5) rfl f_Scene_172 d_Scene_mayFollow_108 ?_
  refine dk_callVi X v_Scales_value [.ref (ad (44 + 3 * t5 + 1))] (c_Scales_value l g ad T n t5 1 ht5 (by decide) S3) 15 (oC_Scales g ad T S3) rfl rfl m_Scene_177 rfl rfl ⟨rfl, rfl, Nat.le_of_ble_eq_true rfl, Nat.le_of_ble_eq_true rfl, Nat.le_refl _, Nat.le_refl _⟩ (Nat.le_of_ble_eq_true rfl) d_Scene_mayFollow_111 hF (fun r7 S6 hF => ?_)
  refine dk_if_eq (tgt := 121) X (by decide) d_Scene_mayFollow_114 hF (fun hF => ?_) (fun hF => ?_)
  · refine dk_iconst (v := 0) X (by decide) d_Scene_mayFollow_121 ?_
    exact dk_retz hR hF d_Scene_mayFollow_122
  · refine dk_iconst (v := 1) X (by decide) d_Scene_mayFollow_117 ?_
    refine dk_goto (tgt := 122) X (by decide) d_Scene_mayFollow_118 ?_
    exact dk_retz hR hF d_Scene_mayFollow_122
def B_Scene_mayFollow_59 (n T : Nat)  (x1 : Int32) (x3 : Int32) (u1 : Int32) (u2 : Int32) (S : dk_S) : Option (Int32 × dk_S) :=
  dk_cv (F_Scales_setName n T u1 u2 S) fun S8 => dk_c (F_Land_isTame n T x3 S8) fun r11 S10 => if r11 = 0 then (B_Scene_mayFollow_84 n T  x1 (-5 : Int32) (0 : Int32) S10) else (B_Scene_mayFollow_84 n T  x1 (-5 : Int32) (1 : Int32) S10)
set_option maxRecDepth 20000 in
theorem kb_Scene_mayFollow_59 {p : Program} {l : Launch} {e : Env} {s : State} {m : MethodId} {args : Array Value} {below : List Frame} {meth : Method} {c : Code} {g : dk_G} {A : Nat → Prop} {Q : State → Prop} {ad : Nat → Nat} {T : Nat} {n : Nat} {res : (Int32 × dk_S)} (X : dk_X p s m args meth c b_Scene_mayFollow 5 R_Scene (some .boolean) g A) (hR : dk_Ri p l e rm_Scene_mayFollow s m args below meth c g A Q 5 b_Scene_mayFollow (some .boolean) (wC g ad T) res)  {x1 : Int32} {x3 : Int32} {u1 : Int32} {u2 : Int32} {S : dk_S}  (hF : B_Scene_mayFollow_59 n T  x1 x3 u1 u2 S = some res) : dk_J p l e rm_Scene_mayFollow s m args below meth c g A Q 5 0 0 59 [(0, .ref (ad 18)), (1, .int x1), (3, .int x3)] [.int u2, .int u1, .ref (ad 15)] (wC g ad T S) := by
  unfold B_Scene_mayFollow_59 at hF
  refine dk_callVv X v_Scales_setName [.int u1, .int u2] (c_Scales_setName l g ad T n u1 u2 S) 15 (oC_Scales g ad T S) rfl rfl m_Scene_163 rfl rfl ⟨rfl, rfl, Nat.le_of_ble_eq_true rfl, Nat.le_of_ble_eq_true rfl, Nat.le_refl _, Nat.le_refl _⟩ (Nat.le_of_ble_eq_true rfl) d_Scene_mayFollow_59 hF (fun S8 hF => ?_)
  refine dk_aload_n (k := 0) (i := 0) X 0 rfl rfl d_Scene_mayFollow_62 ?_
  refine dk_get X q_Scene 18 2 (by decide) (oC_Scene g ad T S8) rfl f_Scene_54 d_Scene_mayFollow_63 ?_
  refine dk_bipush (v := -5) X (by decide) d_Scene_mayFollow_66 ?_
  refine dk_aload_n (k := 0) (i := 0) X 0 rfl rfl d_Scene_mayFollow_68 ?_
  refine dk_get X q_Scene 18 0 (by decide) (oC_Scene g ad T S8) rfl f_Scene_46 d_Scene_mayFollow_69 ?_
  refine dk_iload_n (k := 3) (i := 3) X 2 rfl rfl d_Scene_mayFollow_72 ?_
  refine dk_callVi X v_Land_isTame [.int x3] (c_Land_isTame l g ad T n x3 S8) 1 (oC_Land g ad T S8) rfl rfl m_Scene_86 rfl rfl ⟨rfl, rfl, Nat.le_of_ble_eq_true rfl, Nat.le_of_ble_eq_true rfl, Nat.le_refl _, Nat.le_refl _⟩ (Nat.le_of_ble_eq_true rfl) d_Scene_mayFollow_73 hF (fun r11 S10 hF => ?_)
  refine dk_if_eq (tgt := 83) X (by decide) d_Scene_mayFollow_76 hF (fun hF => ?_) (fun hF => ?_)
  · refine dk_iconst (v := 0) X (by decide) d_Scene_mayFollow_83 ?_
    exact dk_sub [0, 1] rfl (kb_Scene_mayFollow_84 (n := n) X hR   hF)
  · refine dk_iconst (v := 1) X (by decide) d_Scene_mayFollow_79 ?_
    refine dk_goto (tgt := 84) X (by decide) d_Scene_mayFollow_80 ?_
    exact dk_sub [0, 1] rfl (kb_Scene_mayFollow_84 (n := n) X hR   hF)
def B_Scene_mayFollow_0 (n T : Nat)  (x1 : Int32) (x2 : Int32) (x3 : Int32) (S : dk_S) : Option (Int32 × dk_S) :=
  dk_c (F_Land_ownerOf n T x2 S) fun r13 S12 => dk_cv (F_Scales_setName n T (-1 : Int32) (-1 : Int32) S12) fun S14 => dk_cv (F_Scales_setName n T (-2 : Int32) (0 : Int32) S14) fun S16 => dk_cv (F_Scales_setName n T (-3 : Int32) (r13 + (1 : Int32)) S16) fun S18 => if ¬ r13 = x1 then (B_Scene_mayFollow_59 n T  x1 x3 (-4 : Int32) (0 : Int32) S18) else (B_Scene_mayFollow_59 n T  x1 x3 (-4 : Int32) (1 : Int32) S18)
set_option maxRecDepth 20000 in
theorem kb_Scene_mayFollow_0 {p : Program} {l : Launch} {e : Env} {s : State} {m : MethodId} {args : Array Value} {below : List Frame} {meth : Method} {c : Code} {g : dk_G} {A : Nat → Prop} {Q : State → Prop} {ad : Nat → Nat} {T : Nat} {n : Nat} {res : (Int32 × dk_S)} (X : dk_X p s m args meth c b_Scene_mayFollow 5 R_Scene (some .boolean) g A) (hR : dk_Ri p l e rm_Scene_mayFollow s m args below meth c g A Q 5 b_Scene_mayFollow (some .boolean) (wC g ad T) res)  {x1 : Int32} {x2 : Int32} {x3 : Int32} {S : dk_S}  (hF : B_Scene_mayFollow_0 n T  x1 x2 x3 S = some res) : dk_J p l e rm_Scene_mayFollow s m args below meth c g A Q 5 0 0 0 [(0, .ref (ad 18)), (1, .int x1), (2, .int x2), (3, .int x3)] [] (wC g ad T S) := by
  unfold B_Scene_mayFollow_0 at hF
  refine dk_aload_n (k := 0) (i := 0) X 0 rfl rfl d_Scene_mayFollow_0 ?_
  refine dk_get X q_Scene 18 0 (by decide) (oC_Scene g ad T S) rfl f_Scene_46 d_Scene_mayFollow_1 ?_
  refine dk_iload_n (k := 2) (i := 2) X 2 rfl rfl d_Scene_mayFollow_4 ?_
  refine dk_callVi X v_Land_ownerOf [.int x2] (c_Land_ownerOf l g ad T n x2 S) 1 (oC_Land g ad T S) rfl rfl m_Scene_139 rfl rfl ⟨rfl, rfl, Nat.le_of_ble_eq_true rfl, Nat.le_of_ble_eq_true rfl, Nat.le_refl _, Nat.le_refl _⟩ (Nat.le_of_ble_eq_true rfl) d_Scene_mayFollow_5 hF (fun r13 S12 hF => ?_)
  refine dk_istore (i := 4) (lv' := [(4, .int r13), (0, .ref (ad 18)), (1, .int x1), (2, .int x2), (3, .int x3)]) X (by decide) rfl d_Scene_mayFollow_8 ?_
  refine dk_aload_n (k := 0) (i := 0) X 1 rfl rfl d_Scene_mayFollow_10 ?_
  refine dk_get X q_Scene 18 2 (by decide) (oC_Scene g ad T S12) rfl f_Scene_54 d_Scene_mayFollow_11 ?_
  refine dk_iconst (v := -1) X (by decide) d_Scene_mayFollow_14 ?_
  refine dk_iconst (v := -1) X (by decide) d_Scene_mayFollow_15 ?_
  refine dk_callVv X v_Scales_setName [.int (-1 : Int32), .int (-1 : Int32)] (c_Scales_setName l g ad T n (-1 : Int32) (-1 : Int32) S12) 15 (oC_Scales g ad T S12) rfl rfl m_Scene_163 rfl rfl ⟨rfl, rfl, Nat.le_of_ble_eq_true rfl, Nat.le_of_ble_eq_true rfl, Nat.le_refl _, Nat.le_refl _⟩ (Nat.le_of_ble_eq_true rfl) d_Scene_mayFollow_16 hF (fun S14 hF => ?_)
  refine dk_aload_n (k := 0) (i := 0) X 1 rfl rfl d_Scene_mayFollow_19 ?_
  refine dk_get X q_Scene 18 2 (by decide) (oC_Scene g ad T S14) rfl f_Scene_54 d_Scene_mayFollow_20 ?_
  refine dk_bipush (v := -2) X (by decide) d_Scene_mayFollow_23 ?_
  refine dk_iconst (v := 0) X (by decide) d_Scene_mayFollow_25 ?_
  refine dk_callVv X v_Scales_setName [.int (-2 : Int32), .int (0 : Int32)] (c_Scales_setName l g ad T n (-2 : Int32) (0 : Int32) S14) 15 (oC_Scales g ad T S14) rfl rfl m_Scene_163 rfl rfl ⟨rfl, rfl, Nat.le_of_ble_eq_true rfl, Nat.le_of_ble_eq_true rfl, Nat.le_refl _, Nat.le_refl _⟩ (Nat.le_of_ble_eq_true rfl) d_Scene_mayFollow_26 hF (fun S16 hF => ?_)
  refine dk_aload_n (k := 0) (i := 0) X 1 rfl rfl d_Scene_mayFollow_29 ?_
  refine dk_get X q_Scene 18 2 (by decide) (oC_Scene g ad T S16) rfl f_Scene_54 d_Scene_mayFollow_30 ?_
  refine dk_bipush (v := -3) X (by decide) d_Scene_mayFollow_33 ?_
  refine dk_iload (i := 4) X 0 rfl d_Scene_mayFollow_35 ?_
  refine dk_iconst (v := 1) X (by decide) d_Scene_mayFollow_37 ?_
  refine dk_iadd X d_Scene_mayFollow_38 ?_
  refine dk_callVv X v_Scales_setName [.int (-3 : Int32), .int (r13 + (1 : Int32))] (c_Scales_setName l g ad T n (-3 : Int32) (r13 + (1 : Int32)) S16) 15 (oC_Scales g ad T S16) rfl rfl m_Scene_163 rfl rfl ⟨rfl, rfl, Nat.le_of_ble_eq_true rfl, Nat.le_of_ble_eq_true rfl, Nat.le_refl _, Nat.le_refl _⟩ (Nat.le_of_ble_eq_true rfl) d_Scene_mayFollow_39 hF (fun S18 hF => ?_)
  refine dk_aload_n (k := 0) (i := 0) X 1 rfl rfl d_Scene_mayFollow_42 ?_
  refine dk_get X q_Scene 18 2 (by decide) (oC_Scene g ad T S18) rfl f_Scene_54 d_Scene_mayFollow_43 ?_
  refine dk_bipush (v := -4) X (by decide) d_Scene_mayFollow_46 ?_
  refine dk_iload (i := 4) X 0 rfl d_Scene_mayFollow_48 ?_
  refine dk_iload_n (k := 1) (i := 1) X 2 rfl rfl d_Scene_mayFollow_50 ?_
  refine dk_icmp_ne (tgt := 58) X (by decide) d_Scene_mayFollow_51 hF (fun hF => ?_) (fun hF => ?_)
  · refine dk_iconst (v := 0) X (by decide) d_Scene_mayFollow_58 ?_
    exact dk_sub [1, 2, 4] rfl (kb_Scene_mayFollow_59 (n := n) X hR   hF)
  · refine dk_iconst (v := 1) X (by decide) d_Scene_mayFollow_54 ?_
    refine dk_goto (tgt := 59) X (by decide) d_Scene_mayFollow_55 ?_
    exact dk_sub [1, 2, 4] rfl (kb_Scene_mayFollow_59 (n := n) X hR   hF)
def F_Scene_mayFollow (n T : Nat) (x1 : Int32) (x2 : Int32) (x3 : Int32) (S : dk_S) : Option (Int32 × dk_S) := B_Scene_mayFollow_0 n T x1 x2 x3 S
theorem c_Scene_mayFollow (l : Launch) (g : dk_G) (ad : Nat → Nat) (T n : Nat) (x1 : Int32) (x2 : Int32) (x3 : Int32)  (S : dk_S) : dk_Mi l g y_Scene_mayFollow b_Scene_mayFollow 5 rm_Scene_mayFollow (some .boolean) [.ref (ad 18), .int x1, .int x2, .int x3] (wC g ad T) S (F_Scene_mayFollow n T x1 x2 x3 S) := dk_enteri (by decide) (Nat.le_of_ble_eq_true rfl) (fun p e s m args below meth c A Q res hF X hR => (kb_Scene_mayFollow_0 (n := n) X hR  hF))
abbrev b_Scene_make : ByteArray := prog_7_method_9_code
def y_Scene_make : MethodName := ⟨R_Scene, "make", "(IIIII)V"⟩
theorem d_Scene_make_0 : decode b_Scene_make 0 = .ok (.aload_n 0, 1) := by decide +kernel
theorem d_Scene_make_1 : decode b_Scene_make 1 = .ok (.getfield 58, 3) := by decide +kernel
theorem d_Scene_make_4 : decode b_Scene_make 4 = .ok (.bipush 44, 2) := by decide +kernel
theorem d_Scene_make_6 : decode b_Scene_make 6 = .ok (.if_icmp .lt 4, 3) := by decide +kernel
theorem d_Scene_make_9 : decode b_Scene_make 9 = .ok (.return_, 1) := by decide +kernel
theorem d_Scene_make_10 : decode b_Scene_make 10 = .ok (.aload_n 0, 1) := by decide +kernel
theorem d_Scene_make_11 : decode b_Scene_make 11 = .ok (.getfield 9, 3) := by decide +kernel
theorem d_Scene_make_14 : decode b_Scene_make 14 = .ok (.aload_n 0, 1) := by decide +kernel
theorem d_Scene_make_15 : decode b_Scene_make 15 = .ok (.getfield 58, 3) := by decide +kernel
theorem d_Scene_make_18 : decode b_Scene_make 18 = .ok (.iload_n 1, 1) := by decide +kernel
theorem d_Scene_make_19 : decode b_Scene_make 19 = .ok (.iastore, 1) := by decide +kernel
theorem d_Scene_make_20 : decode b_Scene_make 20 = .ok (.aload_n 0, 1) := by decide +kernel
theorem d_Scene_make_21 : decode b_Scene_make 21 = .ok (.getfield 15, 3) := by decide +kernel
theorem d_Scene_make_24 : decode b_Scene_make 24 = .ok (.aload_n 0, 1) := by decide +kernel
theorem d_Scene_make_25 : decode b_Scene_make 25 = .ok (.getfield 58, 3) := by decide +kernel
theorem d_Scene_make_28 : decode b_Scene_make 28 = .ok (.iload_n 3, 1) := by decide +kernel
theorem d_Scene_make_29 : decode b_Scene_make 29 = .ok (.iastore, 1) := by decide +kernel
theorem d_Scene_make_30 : decode b_Scene_make 30 = .ok (.aload_n 0, 1) := by decide +kernel
theorem d_Scene_make_31 : decode b_Scene_make 31 = .ok (.getfield 18, 3) := by decide +kernel
theorem d_Scene_make_34 : decode b_Scene_make 34 = .ok (.aload_n 0, 1) := by decide +kernel
theorem d_Scene_make_35 : decode b_Scene_make 35 = .ok (.getfield 58, 3) := by decide +kernel
theorem d_Scene_make_38 : decode b_Scene_make 38 = .ok (.iload_n 2, 1) := by decide +kernel
theorem d_Scene_make_39 : decode b_Scene_make 39 = .ok (.iastore, 1) := by decide +kernel
theorem d_Scene_make_40 : decode b_Scene_make 40 = .ok (.aload_n 0, 1) := by decide +kernel
theorem d_Scene_make_41 : decode b_Scene_make 41 = .ok (.getfield 21, 3) := by decide +kernel
theorem d_Scene_make_44 : decode b_Scene_make 44 = .ok (.aload_n 0, 1) := by decide +kernel
theorem d_Scene_make_45 : decode b_Scene_make 45 = .ok (.getfield 58, 3) := by decide +kernel
theorem d_Scene_make_48 : decode b_Scene_make 48 = .ok (.iload 4, 2) := by decide +kernel
theorem d_Scene_make_50 : decode b_Scene_make 50 = .ok (.iastore, 1) := by decide +kernel
theorem d_Scene_make_51 : decode b_Scene_make 51 = .ok (.aload_n 0, 1) := by decide +kernel
theorem d_Scene_make_52 : decode b_Scene_make 52 = .ok (.getfield 24, 3) := by decide +kernel
theorem d_Scene_make_55 : decode b_Scene_make 55 = .ok (.aload_n 0, 1) := by decide +kernel
theorem d_Scene_make_56 : decode b_Scene_make 56 = .ok (.getfield 58, 3) := by decide +kernel
theorem d_Scene_make_59 : decode b_Scene_make 59 = .ok (.iload 5, 2) := by decide +kernel
theorem d_Scene_make_61 : decode b_Scene_make 61 = .ok (.iastore, 1) := by decide +kernel
theorem d_Scene_make_62 : decode b_Scene_make 62 = .ok (.aload_n 0, 1) := by decide +kernel
theorem d_Scene_make_63 : decode b_Scene_make 63 = .ok (.getfield 27, 3) := by decide +kernel
theorem d_Scene_make_66 : decode b_Scene_make 66 = .ok (.aload_n 0, 1) := by decide +kernel
theorem d_Scene_make_67 : decode b_Scene_make 67 = .ok (.getfield 58, 3) := by decide +kernel
theorem d_Scene_make_70 : decode b_Scene_make 70 = .ok (.aload_n 0, 1) := by decide +kernel
theorem d_Scene_make_71 : decode b_Scene_make 71 = .ok (.getfield 37, 3) := by decide +kernel
theorem d_Scene_make_74 : decode b_Scene_make 74 = .ok (.iload_n 2, 1) := by decide +kernel
theorem d_Scene_make_75 : decode b_Scene_make 75 = .ok (.iaload, 1) := by decide +kernel
theorem d_Scene_make_76 : decode b_Scene_make 76 = .ok (.iastore, 1) := by decide +kernel
theorem d_Scene_make_77 : decode b_Scene_make 77 = .ok (.aload_n 0, 1) := by decide +kernel
theorem d_Scene_make_78 : decode b_Scene_make 78 = .ok (.getfield 30, 3) := by decide +kernel
theorem d_Scene_make_81 : decode b_Scene_make 81 = .ok (.aload_n 0, 1) := by decide +kernel
theorem d_Scene_make_82 : decode b_Scene_make 82 = .ok (.getfield 58, 3) := by decide +kernel
theorem d_Scene_make_85 : decode b_Scene_make 85 = .ok (.iconst (-1), 1) := by decide +kernel
theorem d_Scene_make_86 : decode b_Scene_make 86 = .ok (.iastore, 1) := by decide +kernel
theorem d_Scene_make_87 : decode b_Scene_make 87 = .ok (.aload_n 0, 1) := by decide +kernel
theorem d_Scene_make_88 : decode b_Scene_make 88 = .ok (.getfield 33, 3) := by decide +kernel
theorem d_Scene_make_91 : decode b_Scene_make 91 = .ok (.aload_n 0, 1) := by decide +kernel
theorem d_Scene_make_92 : decode b_Scene_make 92 = .ok (.getfield 58, 3) := by decide +kernel
theorem d_Scene_make_95 : decode b_Scene_make 95 = .ok (.iconst 0, 1) := by decide +kernel
theorem d_Scene_make_96 : decode b_Scene_make 96 = .ok (.bastore, 1) := by decide +kernel
theorem d_Scene_make_97 : decode b_Scene_make 97 = .ok (.aload_n 0, 1) := by decide +kernel
theorem d_Scene_make_98 : decode b_Scene_make 98 = .ok (.dup, 1) := by decide +kernel
theorem d_Scene_make_99 : decode b_Scene_make 99 = .ok (.getfield 58, 3) := by decide +kernel
theorem d_Scene_make_102 : decode b_Scene_make 102 = .ok (.iconst 1, 1) := by decide +kernel
theorem d_Scene_make_103 : decode b_Scene_make 103 = .ok (.iadd, 1) := by decide +kernel
theorem d_Scene_make_104 : decode b_Scene_make 104 = .ok (.putfield 58, 3) := by decide +kernel
theorem d_Scene_make_107 : decode b_Scene_make 107 = .ok (.return_, 1) := by decide +kernel
theorem v_Scene_make : dk_Yv y_Scene_make b_Scene_make 6 (none) 5 := ⟨dk_in (List.mem_of_getElem? (i := 695) (by decide +kernel)) rfl, dk_in (List.mem_of_getElem? (i := 17) (by decide +kernel)) rfl, dk_in (List.mem_of_getElem? (i := 72) (by decide +kernel)) rfl, dk_in (List.mem_of_getElem? (i := 696) (by decide +kernel)) rfl, by decide +kernel, by decide +kernel, by decide +kernel⟩
abbrev rm_Scene_make : Room := { frames := 0, cells := 0, slots := 0, locals := 0 }
theorem f_Scene_15 : Cond.fieldLink R_Scene 15 (T_Scene 4).1 (T_Scene 4).2.1 (T_Scene 4).2.2.1 ∈ dk_tb := dk_in (List.mem_of_getElem? (i := 255) (by decide +kernel)) rfl
theorem f_Scene_18 : Cond.fieldLink R_Scene 18 (T_Scene 5).1 (T_Scene 5).2.1 (T_Scene 5).2.2.1 ∈ dk_tb := dk_in (List.mem_of_getElem? (i := 257) (by decide +kernel)) rfl
theorem f_Scene_21 : Cond.fieldLink R_Scene 21 (T_Scene 6).1 (T_Scene 6).2.1 (T_Scene 6).2.2.1 ∈ dk_tb := dk_in (List.mem_of_getElem? (i := 259) (by decide +kernel)) rfl
theorem f_Scene_24 : Cond.fieldLink R_Scene 24 (T_Scene 7).1 (T_Scene 7).2.1 (T_Scene 7).2.2.1 ∈ dk_tb := dk_in (List.mem_of_getElem? (i := 261) (by decide +kernel)) rfl
theorem f_Scene_27 : Cond.fieldLink R_Scene 27 (T_Scene 8).1 (T_Scene 8).2.1 (T_Scene 8).2.2.1 ∈ dk_tb := dk_in (List.mem_of_getElem? (i := 263) (by decide +kernel)) rfl
theorem f_Scene_30 : Cond.fieldLink R_Scene 30 (T_Scene 9).1 (T_Scene 9).2.1 (T_Scene 9).2.2.1 ∈ dk_tb := dk_in (List.mem_of_getElem? (i := 264) (by decide +kernel)) rfl
theorem f_Scene_33 : Cond.fieldLink R_Scene 33 (T_Scene 10).1 (T_Scene 10).2.1 (T_Scene 10).2.2.1 ∈ dk_tb := dk_in (List.mem_of_getElem? (i := 265) (by decide +kernel)) rfl
theorem f_Scene_37 : Cond.fieldLink R_Scene 37 (T_Scene 13).1 (T_Scene 13).2.1 (T_Scene 13).2.2.1 ∈ dk_tb := dk_in (List.mem_of_getElem? (i := 269) (by decide +kernel)) rfl
theorem f_Scene_58 : Cond.fieldLink R_Scene 58 (T_Scene 11).1 (T_Scene 11).2.1 (T_Scene 11).2.2.1 ∈ dk_tb := dk_in (List.mem_of_getElem? (i := 266) (by decide +kernel)) rfl
theorem f_Scene_9 : Cond.fieldLink R_Scene 9 (T_Scene 3).1 (T_Scene 3).2.1 (T_Scene 3).2.2.1 ∈ dk_tb := dk_in (List.mem_of_getElem? (i := 253) (by decide +kernel)) rfl
def B_Scene_make_0 (n T : Nat)  (x1 : Int32) (x2 : Int32) (x3 : Int32) (x4 : Int32) (x5 : Int32) (S : dk_S) : Option dk_S :=
  if (S 115 0) < (44 : Int32) then (dk_w S 19 44 (S 115 0) x1 fun S1 => dk_w S1 20 44 (S1 115 0) x3 fun S2 => dk_w S2 21 44 (S2 115 0) x2 fun S3 => dk_w S3 22 44 (S3 115 0) x4 fun S4 => dk_w S4 23 44 (S4 115 0) x5 fun S5 => dk_r 6 (S5 27) x2 fun v6 => dk_w S5 24 44 (S5 115 0) v6 fun S7 => dk_w S7 25 44 (S7 115 0) (-1 : Int32) fun S8 => dk_w S8 26 44 (S8 115 0) (vp_nar .boolean (0 : Int32)) fun S9 => dk_p S9 115 ((S9 115 0) + (1 : Int32)) fun S10 => some S10) else (some S)
set_option maxRecDepth 20000 in
theorem kb_Scene_make_0 {p : Program} {l : Launch} {e : Env} {s : State} {m : MethodId} {args : Array Value} {below : List Frame} {meth : Method} {c : Code} {g : dk_G} {A : Nat → Prop} {Q : State → Prop} {ad : Nat → Nat} {T : Nat} {n : Nat} {res : dk_S} (X : dk_X p s m args meth c b_Scene_make 6 R_Scene (none) g A) (hR : dk_Rv p l e rm_Scene_make s m args below meth c g A Q 6 b_Scene_make (none) (wC g ad T) res)  {x1 : Int32} {x2 : Int32} {x3 : Int32} {x4 : Int32} {x5 : Int32} {S : dk_S}  (hF : B_Scene_make_0 n T  x1 x2 x3 x4 x5 S = some res) : dk_J p l e rm_Scene_make s m args below meth c g A Q 6 0 0 0 [(0, .ref (ad 18)), (1, .int x1), (2, .int x2), (3, .int x3), (4, .int x4), (5, .int x5)] [] (wC g ad T S) := by
  unfold B_Scene_make_0 at hF
  refine dk_aload_n (k := 0) (i := 0) X 0 rfl rfl d_Scene_make_0 ?_
  refine dk_get X q_Scene 18 11 (by decide) (oC_Scene g ad T S) rfl f_Scene_58 d_Scene_make_1 ?_
  refine dk_bipush (v := 44) X (by decide) d_Scene_make_4 ?_
  refine dk_icmp_lt (tgt := 10) X (by decide) d_Scene_make_6 hF (fun hF => ?_) (fun hF => ?_)
  · refine dk_aload_n (k := 0) (i := 0) X 0 rfl rfl d_Scene_make_10 ?_
    refine dk_get X q_Scene 18 3 (by decide) (oC_Scene g ad T S) rfl f_Scene_9 d_Scene_make_11 ?_
    refine dk_aload_n (k := 0) (i := 0) X 0 rfl rfl d_Scene_make_14 ?_
    refine dk_get X q_Scene 18 11 (by decide) (oC_Scene g ad T S) rfl f_Scene_58 d_Scene_make_15 ?_
    refine dk_iload_n (k := 1) (i := 1) X 1 rfl rfl d_Scene_make_18 ?_
    refine dk_iast X 19 (aC_19 g ad T S) (sC_19 g ad T S _ _) d_Scene_make_19 hF (fun S1 hF => ?_)
    refine dk_aload_n (k := 0) (i := 0) X 0 rfl rfl d_Scene_make_20 ?_
    refine dk_get X q_Scene 18 4 (by decide) (oC_Scene g ad T S1) rfl f_Scene_15 d_Scene_make_21 ?_
    refine dk_aload_n (k := 0) (i := 0) X 0 rfl rfl d_Scene_make_24 ?_
    refine dk_get X q_Scene 18 11 (by decide) (oC_Scene g ad T S1) rfl f_Scene_58 d_Scene_make_25 ?_
    refine dk_iload_n (k := 3) (i := 3) X 3 rfl rfl d_Scene_make_28 ?_
    refine dk_iast X 20 (aC_20 g ad T S1) (sC_20 g ad T S1 _ _) d_Scene_make_29 hF (fun S2 hF => ?_)
    refine dk_aload_n (k := 0) (i := 0) X 0 rfl rfl d_Scene_make_30 ?_
    refine dk_get X q_Scene 18 5 (by decide) (oC_Scene g ad T S2) rfl f_Scene_18 d_Scene_make_31 ?_
    refine dk_aload_n (k := 0) (i := 0) X 0 rfl rfl d_Scene_make_34 ?_
    refine dk_get X q_Scene 18 11 (by decide) (oC_Scene g ad T S2) rfl f_Scene_58 d_Scene_make_35 ?_
    refine dk_iload_n (k := 2) (i := 2) X 2 rfl rfl d_Scene_make_38 ?_
    refine dk_iast X 21 (aC_21 g ad T S2) (sC_21 g ad T S2 _ _) d_Scene_make_39 hF (fun S3 hF => ?_)
    refine dk_aload_n (k := 0) (i := 0) X 0 rfl rfl d_Scene_make_40 ?_
    refine dk_get X q_Scene 18 6 (by decide) (oC_Scene g ad T S3) rfl f_Scene_21 d_Scene_make_41 ?_
    refine dk_aload_n (k := 0) (i := 0) X 0 rfl rfl d_Scene_make_44 ?_
    refine dk_get X q_Scene 18 11 (by decide) (oC_Scene g ad T S3) rfl f_Scene_58 d_Scene_make_45 ?_
    refine dk_iload (i := 4) X 4 rfl d_Scene_make_48 ?_
    refine dk_iast X 22 (aC_22 g ad T S3) (sC_22 g ad T S3 _ _) d_Scene_make_50 hF (fun S4 hF => ?_)
    refine dk_aload_n (k := 0) (i := 0) X 0 rfl rfl d_Scene_make_51 ?_
    refine dk_get X q_Scene 18 7 (by decide) (oC_Scene g ad T S4) rfl f_Scene_24 d_Scene_make_52 ?_
    refine dk_aload_n (k := 0) (i := 0) X 0 rfl rfl d_Scene_make_55 ?_
    refine dk_get X q_Scene 18 11 (by decide) (oC_Scene g ad T S4) rfl f_Scene_58 d_Scene_make_56 ?_
    refine dk_iload (i := 5) X 5 rfl d_Scene_make_59 ?_
    refine dk_iast X 23 (aC_23 g ad T S4) (sC_23 g ad T S4 _ _) d_Scene_make_61 hF (fun S5 hF => ?_)
    refine dk_aload_n (k := 0) (i := 0) X 0 rfl rfl d_Scene_make_62 ?_
    refine dk_get X q_Scene 18 8 (by decide) (oC_Scene g ad T S5) rfl f_Scene_27 d_Scene_make_63 ?_
    refine dk_aload_n (k := 0) (i := 0) X 0 rfl rfl d_Scene_make_66 ?_
    refine dk_get X q_Scene 18 11 (by decide) (oC_Scene g ad T S5) rfl f_Scene_58 d_Scene_make_67 ?_
    refine dk_aload_n (k := 0) (i := 0) X 0 rfl rfl d_Scene_make_70 ?_
    refine dk_get X q_Scene 18 13 (by decide) (oC_Scene g ad T S5) rfl f_Scene_37 d_Scene_make_71 ?_
    refine dk_iload_n (k := 2) (i := 2) X 2 rfl rfl d_Scene_make_74 ?_
    refine dk_iald X 27 (aC_27 g ad T S5) d_Scene_make_75 hF (fun v6 hF => ?_)
    refine dk_iast X 24 (aC_24 g ad T S5) (sC_24 g ad T S5 _ _) d_Scene_make_76 hF (fun S7 hF => ?_)
    refine dk_aload_n (k := 0) (i := 0) X 0 rfl rfl d_Scene_make_77 ?_
    refine dk_get X q_Scene 18 9 (by decide) (oC_Scene g ad T S7) rfl f_Scene_30 d_Scene_make_78 ?_
    refine dk_aload_n (k := 0) (i := 0) X 0 rfl rfl d_Scene_make_81 ?_
    refine dk_get X q_Scene 18 11 (by decide) (oC_Scene g ad T S7) rfl f_Scene_58 d_Scene_make_82 ?_
    refine dk_iconst (v := -1) X (by decide) d_Scene_make_85 ?_
    refine dk_iast X 25 (aC_25 g ad T S7) (sC_25 g ad T S7 _ _) d_Scene_make_86 hF (fun S8 hF => ?_)
    refine dk_aload_n (k := 0) (i := 0) X 0 rfl rfl d_Scene_make_87 ?_
    refine dk_get X q_Scene 18 10 (by decide) (oC_Scene g ad T S8) rfl f_Scene_33 d_Scene_make_88 ?_
    refine dk_aload_n (k := 0) (i := 0) X 0 rfl rfl d_Scene_make_91 ?_
    refine dk_get X q_Scene 18 11 (by decide) (oC_Scene g ad T S8) rfl f_Scene_58 d_Scene_make_92 ?_
    refine dk_iconst (v := 0) X (by decide) d_Scene_make_95 ?_
    refine dk_zast X 26 (aC_26 g ad T S8) (sC_26 g ad T S8 _ _) d_Scene_make_96 hF (fun S9 hF => ?_)
    refine dk_aload_n (k := 0) (i := 0) X 0 rfl rfl d_Scene_make_97 ?_
    refine dk_dup X rfl d_Scene_make_98 ?_
    refine dk_get X q_Scene 18 11 (by decide) (oC_Scene g ad T S9) rfl f_Scene_58 d_Scene_make_99 ?_
    refine dk_iconst (v := 1) X (by decide) d_Scene_make_102 ?_
    refine dk_iadd X d_Scene_make_103 ?_
    refine dk_puti X q_Scene 18 11 (by decide) (oC_Scene g ad T S9) f_Scene_58 rfl rfl (Nat.le_of_ble_eq_true rfl) (sC_Scene_size g ad T S9 _) d_Scene_make_104 hF (fun S10 hF => ?_)
    exact dk_retv hR hF d_Scene_make_107
  · exact dk_retv hR hF d_Scene_make_9
def F_Scene_make (n T : Nat) (x1 : Int32) (x2 : Int32) (x3 : Int32) (x4 : Int32) (x5 : Int32) (S : dk_S) : Option dk_S := B_Scene_make_0 n T x1 x2 x3 x4 x5 S
theorem c_Scene_make (l : Launch) (g : dk_G) (ad : Nat → Nat) (T n : Nat) (x1 : Int32) (x2 : Int32) (x3 : Int32) (x4 : Int32) (x5 : Int32)  (S : dk_S) : dk_Mv l g y_Scene_make b_Scene_make 6 rm_Scene_make (none) [.ref (ad 18), .int x1, .int x2, .int x3, .int x4, .int x5] (wC g ad T) S (F_Scene_make n T x1 x2 x3 x4 x5 S) := dk_enterv (by decide) rfl (Nat.le_of_ble_eq_true rfl) (fun p e s m args below meth c A Q res hF X hR => (kb_Scene_make_0 (n := n) X hR  hF))
abbrev b_Scene_makeForGround : ByteArray := prog_7_method_8_code
def y_Scene_makeForGround : MethodName := ⟨R_Scene, "makeForGround", "(II)V"⟩
theorem d_Scene_makeForGround_0 : decode b_Scene_makeForGround 0 = .ok (.aload_n 0, 1) := by decide +kernel
theorem d_Scene_makeForGround_1 : decode b_Scene_makeForGround 1 = .ok (.getfield 46, 3) := by decide +kernel
theorem d_Scene_makeForGround_4 : decode b_Scene_makeForGround 4 = .ok (.aload_n 0, 1) := by decide +kernel
theorem d_Scene_makeForGround_5 : decode b_Scene_makeForGround 5 = .ok (.getfield 37, 3) := by decide +kernel
theorem d_Scene_makeForGround_8 : decode b_Scene_makeForGround 8 = .ok (.iload_n 1, 1) := by decide +kernel
theorem d_Scene_makeForGround_9 : decode b_Scene_makeForGround 9 = .ok (.iaload, 1) := by decide +kernel
theorem d_Scene_makeForGround_10 : decode b_Scene_makeForGround 10 = .ok (.invokevirtual 139, 3) := by decide +kernel
theorem d_Scene_makeForGround_13 : decode b_Scene_makeForGround 13 = .ok (.istore_n 3, 1) := by decide +kernel
theorem d_Scene_makeForGround_14 : decode b_Scene_makeForGround 14 = .ok (.iload_n 3, 1) := by decide +kernel
theorem d_Scene_makeForGround_15 : decode b_Scene_makeForGround 15 = .ok (.iconst (-1), 1) := by decide +kernel
theorem d_Scene_makeForGround_16 : decode b_Scene_makeForGround 16 = .ok (.if_icmp .eq 12, 3) := by decide +kernel
theorem d_Scene_makeForGround_19 : decode b_Scene_makeForGround 19 = .ok (.aload_n 0, 1) := by decide +kernel
theorem d_Scene_makeForGround_20 : decode b_Scene_makeForGround 20 = .ok (.iconst 4, 1) := by decide +kernel
theorem d_Scene_makeForGround_21 : decode b_Scene_makeForGround 21 = .ok (.iload_n 1, 1) := by decide +kernel
theorem d_Scene_makeForGround_22 : decode b_Scene_makeForGround 22 = .ok (.iload_n 3, 1) := by decide +kernel
theorem d_Scene_makeForGround_23 : decode b_Scene_makeForGround 23 = .ok (.iload_n 2, 1) := by decide +kernel
theorem d_Scene_makeForGround_24 : decode b_Scene_makeForGround 24 = .ok (.iconst 0, 1) := by decide +kernel
theorem d_Scene_makeForGround_25 : decode b_Scene_makeForGround 25 = .ok (.invokevirtual 93, 3) := by decide +kernel
theorem d_Scene_makeForGround_28 : decode b_Scene_makeForGround 28 = .ok (.return_, 1) := by decide +kernel
theorem v_Scene_makeForGround : dk_Yv y_Scene_makeForGround b_Scene_makeForGround 4 (none) 2 := ⟨dk_in (List.mem_of_getElem? (i := 699) (by decide +kernel)) rfl, dk_in (List.mem_of_getElem? (i := 18) (by decide +kernel)) rfl, dk_in (List.mem_of_getElem? (i := 72) (by decide +kernel)) rfl, dk_in (List.mem_of_getElem? (i := 700) (by decide +kernel)) rfl, by decide +kernel, by decide +kernel, by decide +kernel⟩
abbrev rm_Scene_makeForGround : Room := { frames := 1, cells := 0, slots := 0, locals := 25 }
theorem m_Scene_93 : Cond.methodLink R_Scene 93 y_Scene_make ∈ dk_tb := dk_in (List.mem_of_getElem? (i := 693) (by decide +kernel)) rfl
def B_Scene_makeForGround_0 (n T : Nat)  (x1 : Int32) (x2 : Int32) (S : dk_S) : Option dk_S :=
  dk_r 6 (S 27) x1 fun v1 => dk_c (F_Land_ownerOf n T v1 S) fun r3 S2 => if r3 = (-1 : Int32) then (some S2) else (dk_cv (F_Scene_make n T (4 : Int32) x1 r3 x2 (0 : Int32) S2) fun S4 => some S4)
set_option maxRecDepth 20000 in
theorem kb_Scene_makeForGround_0 {p : Program} {l : Launch} {e : Env} {s : State} {m : MethodId} {args : Array Value} {below : List Frame} {meth : Method} {c : Code} {g : dk_G} {A : Nat → Prop} {Q : State → Prop} {ad : Nat → Nat} {T : Nat} {n : Nat} {res : dk_S} (X : dk_X p s m args meth c b_Scene_makeForGround 4 R_Scene (none) g A) (hR : dk_Rv p l e rm_Scene_makeForGround s m args below meth c g A Q 4 b_Scene_makeForGround (none) (wC g ad T) res)  {x1 : Int32} {x2 : Int32} {S : dk_S}  (hF : B_Scene_makeForGround_0 n T  x1 x2 S = some res) : dk_J p l e rm_Scene_makeForGround s m args below meth c g A Q 4 0 0 0 [(0, .ref (ad 18)), (1, .int x1), (2, .int x2)] [] (wC g ad T S) := by
  unfold B_Scene_makeForGround_0 at hF
  refine dk_aload_n (k := 0) (i := 0) X 0 rfl rfl d_Scene_makeForGround_0 ?_
  refine dk_get X q_Scene 18 0 (by decide) (oC_Scene g ad T S) rfl f_Scene_46 d_Scene_makeForGround_1 ?_
  refine dk_aload_n (k := 0) (i := 0) X 0 rfl rfl d_Scene_makeForGround_4 ?_
  refine dk_get X q_Scene 18 13 (by decide) (oC_Scene g ad T S) rfl f_Scene_37 d_Scene_makeForGround_5 ?_
  refine dk_iload_n (k := 1) (i := 1) X 1 rfl rfl d_Scene_makeForGround_8 ?_
  refine dk_iald X 27 (aC_27 g ad T S) d_Scene_makeForGround_9 hF (fun v1 hF => ?_)
  refine dk_callVi X v_Land_ownerOf [.int v1] (c_Land_ownerOf l g ad T n v1 S) 1 (oC_Land g ad T S) rfl rfl m_Scene_139 rfl rfl ⟨rfl, rfl, Nat.le_of_ble_eq_true rfl, Nat.le_of_ble_eq_true rfl, Nat.le_refl _, Nat.le_refl _⟩ (Nat.le_of_ble_eq_true rfl) d_Scene_makeForGround_10 hF (fun r3 S2 hF => ?_)
  refine dk_istore_n (k := 3) (i := 3) (lv' := [(3, .int r3), (0, .ref (ad 18)), (1, .int x1), (2, .int x2)]) X rfl (by decide) rfl d_Scene_makeForGround_13 ?_
  refine dk_iload_n (k := 3) (i := 3) X 0 rfl rfl d_Scene_makeForGround_14 ?_
  refine dk_iconst (v := -1) X (by decide) d_Scene_makeForGround_15 ?_
  refine dk_icmp_eq (tgt := 28) X (by decide) d_Scene_makeForGround_16 hF (fun hF => ?_) (fun hF => ?_)
  · exact dk_retv hR hF d_Scene_makeForGround_28
  · refine dk_aload_n (k := 0) (i := 0) X 1 rfl rfl d_Scene_makeForGround_19 ?_
    refine dk_iconst (v := 4) X (by decide) d_Scene_makeForGround_20 ?_
    refine dk_iload_n (k := 1) (i := 1) X 2 rfl rfl d_Scene_makeForGround_21 ?_
    refine dk_iload_n (k := 3) (i := 3) X 0 rfl rfl d_Scene_makeForGround_22 ?_
    refine dk_iload_n (k := 2) (i := 2) X 3 rfl rfl d_Scene_makeForGround_23 ?_
    refine dk_iconst (v := 0) X (by decide) d_Scene_makeForGround_24 ?_
    refine dk_callVv X v_Scene_make [.int (4 : Int32), .int x1, .int r3, .int x2, .int (0 : Int32)] (c_Scene_make l g ad T n (4 : Int32) x1 r3 x2 (0 : Int32) S2) 18 (oC_Scene g ad T S2) rfl rfl m_Scene_93 rfl rfl ⟨rfl, rfl, Nat.le_of_ble_eq_true rfl, Nat.le_of_ble_eq_true rfl, Nat.le_refl _, Nat.le_refl _⟩ (Nat.le_of_ble_eq_true rfl) d_Scene_makeForGround_25 hF (fun S4 hF => ?_)
    exact dk_retv hR hF d_Scene_makeForGround_28
def F_Scene_makeForGround (n T : Nat) (x1 : Int32) (x2 : Int32) (S : dk_S) : Option dk_S := B_Scene_makeForGround_0 n T x1 x2 S
theorem c_Scene_makeForGround (l : Launch) (g : dk_G) (ad : Nat → Nat) (T n : Nat) (x1 : Int32) (x2 : Int32)  (S : dk_S) : dk_Mv l g y_Scene_makeForGround b_Scene_makeForGround 4 rm_Scene_makeForGround (none) [.ref (ad 18), .int x1, .int x2] (wC g ad T) S (F_Scene_makeForGround n T x1 x2 S) := dk_enterv (by decide) rfl (Nat.le_of_ble_eq_true rfl) (fun p e s m args below meth c A Q res hF X hR => (kb_Scene_makeForGround_0 (n := n) X hR  hF))
abbrev b_Scene_begin : ByteArray := prog_7_method_5_code
def y_Scene_begin : MethodName := ⟨R_Scene, "begin", "()V"⟩
theorem d_Scene_begin_0 : decode b_Scene_begin 0 = .ok (.aload_n 0, 1) := by decide +kernel
theorem d_Scene_begin_1 : decode b_Scene_begin 1 = .ok (.iconst 0, 1) := by decide +kernel
theorem d_Scene_begin_2 : decode b_Scene_begin 2 = .ok (.putfield 58, 3) := by decide +kernel
theorem d_Scene_begin_5 : decode b_Scene_begin 5 = .ok (.aload_n 0, 1) := by decide +kernel
theorem d_Scene_begin_6 : decode b_Scene_begin 6 = .ok (.iconst 0, 1) := by decide +kernel
theorem d_Scene_begin_7 : decode b_Scene_begin 7 = .ok (.putfield 75, 3) := by decide +kernel
theorem d_Scene_begin_10 : decode b_Scene_begin 10 = .ok (.iconst 0, 1) := by decide +kernel
theorem d_Scene_begin_11 : decode b_Scene_begin 11 = .ok (.istore_n 1, 1) := by decide +kernel
theorem d_Scene_begin_12 : decode b_Scene_begin 12 = .ok (.iload_n 1, 1) := by decide +kernel
theorem d_Scene_begin_13 : decode b_Scene_begin 13 = .ok (.aload_n 0, 1) := by decide +kernel
theorem d_Scene_begin_14 : decode b_Scene_begin 14 = .ok (.getfield 46, 3) := by decide +kernel
theorem d_Scene_begin_17 : decode b_Scene_begin 17 = .ok (.getfield 78, 3) := by decide +kernel
theorem d_Scene_begin_20 : decode b_Scene_begin 20 = .ok (.if_icmp .ge 72, 3) := by decide +kernel
theorem d_Scene_begin_23 : decode b_Scene_begin 23 = .ok (.aload_n 0, 1) := by decide +kernel
theorem d_Scene_begin_24 : decode b_Scene_begin 24 = .ok (.getfield 37, 3) := by decide +kernel
theorem d_Scene_begin_27 : decode b_Scene_begin 27 = .ok (.iload_n 1, 1) := by decide +kernel
theorem d_Scene_begin_28 : decode b_Scene_begin 28 = .ok (.aload_n 0, 1) := by decide +kernel
theorem d_Scene_begin_29 : decode b_Scene_begin 29 = .ok (.getfield 46, 3) := by decide +kernel
theorem d_Scene_begin_32 : decode b_Scene_begin 32 = .ok (.getfield 83, 3) := by decide +kernel
theorem d_Scene_begin_35 : decode b_Scene_begin 35 = .ok (.iload_n 1, 1) := by decide +kernel
theorem d_Scene_begin_36 : decode b_Scene_begin 36 = .ok (.iaload, 1) := by decide +kernel
theorem d_Scene_begin_37 : decode b_Scene_begin 37 = .ok (.iastore, 1) := by decide +kernel
theorem d_Scene_begin_38 : decode b_Scene_begin 38 = .ok (.aload_n 0, 1) := by decide +kernel
theorem d_Scene_begin_39 : decode b_Scene_begin 39 = .ok (.getfield 40, 3) := by decide +kernel
theorem d_Scene_begin_42 : decode b_Scene_begin 42 = .ok (.iload_n 1, 1) := by decide +kernel
theorem d_Scene_begin_43 : decode b_Scene_begin 43 = .ok (.iconst 0, 1) := by decide +kernel
theorem d_Scene_begin_44 : decode b_Scene_begin 44 = .ok (.iastore, 1) := by decide +kernel
theorem d_Scene_begin_45 : decode b_Scene_begin 45 = .ok (.aload_n 0, 1) := by decide +kernel
theorem d_Scene_begin_46 : decode b_Scene_begin 46 = .ok (.getfield 43, 3) := by decide +kernel
theorem d_Scene_begin_49 : decode b_Scene_begin 49 = .ok (.iload_n 1, 1) := by decide +kernel
theorem d_Scene_begin_50 : decode b_Scene_begin 50 = .ok (.iconst 0, 1) := by decide +kernel
theorem d_Scene_begin_51 : decode b_Scene_begin 51 = .ok (.bastore, 1) := by decide +kernel
theorem d_Scene_begin_52 : decode b_Scene_begin 52 = .ok (.aload_n 0, 1) := by decide +kernel
theorem d_Scene_begin_53 : decode b_Scene_begin 53 = .ok (.getfield 46, 3) := by decide +kernel
theorem d_Scene_begin_56 : decode b_Scene_begin 56 = .ok (.iload_n 1, 1) := by decide +kernel
theorem d_Scene_begin_57 : decode b_Scene_begin 57 = .ok (.invokevirtual 86, 3) := by decide +kernel
theorem d_Scene_begin_60 : decode b_Scene_begin 60 = .ok (.ifCond .eq 20, 3) := by decide +kernel
theorem d_Scene_begin_63 : decode b_Scene_begin 63 = .ok (.aload_n 0, 1) := by decide +kernel
theorem d_Scene_begin_64 : decode b_Scene_begin 64 = .ok (.iconst 5, 1) := by decide +kernel
theorem d_Scene_begin_65 : decode b_Scene_begin 65 = .ok (.iload_n 1, 1) := by decide +kernel
theorem d_Scene_begin_66 : decode b_Scene_begin 66 = .ok (.aload_n 0, 1) := by decide +kernel
theorem d_Scene_begin_67 : decode b_Scene_begin 67 = .ok (.getfield 46, 3) := by decide +kernel
theorem d_Scene_begin_70 : decode b_Scene_begin 70 = .ok (.getfield 90, 3) := by decide +kernel
theorem d_Scene_begin_73 : decode b_Scene_begin 73 = .ok (.iload_n 1, 1) := by decide +kernel
theorem d_Scene_begin_74 : decode b_Scene_begin 74 = .ok (.iaload, 1) := by decide +kernel
theorem d_Scene_begin_75 : decode b_Scene_begin 75 = .ok (.iconst 0, 1) := by decide +kernel
theorem d_Scene_begin_76 : decode b_Scene_begin 76 = .ok (.iconst 0, 1) := by decide +kernel
theorem d_Scene_begin_77 : decode b_Scene_begin 77 = .ok (.invokevirtual 93, 3) := by decide +kernel
theorem d_Scene_begin_80 : decode b_Scene_begin 80 = .ok (.aload_n 0, 1) := by decide +kernel
theorem d_Scene_begin_81 : decode b_Scene_begin 81 = .ok (.iload_n 1, 1) := by decide +kernel
theorem d_Scene_begin_82 : decode b_Scene_begin 82 = .ok (.iconst 0, 1) := by decide +kernel
theorem d_Scene_begin_83 : decode b_Scene_begin 83 = .ok (.invokevirtual 97, 3) := by decide +kernel
theorem d_Scene_begin_86 : decode b_Scene_begin 86 = .ok (.iinc 1 1, 3) := by decide +kernel
theorem d_Scene_begin_89 : decode b_Scene_begin 89 = .ok (.goto (-77), 3) := by decide +kernel
theorem d_Scene_begin_92 : decode b_Scene_begin 92 = .ok (.return_, 1) := by decide +kernel
theorem v_Scene_begin : dk_Yv y_Scene_begin b_Scene_begin 2 (none) 0 := ⟨dk_in (List.mem_of_getElem? (i := 690) (by decide +kernel)) rfl, dk_in (List.mem_of_getElem? (i := 691) (by decide +kernel)) rfl, dk_in (List.mem_of_getElem? (i := 72) (by decide +kernel)) rfl, dk_in (List.mem_of_getElem? (i := 692) (by decide +kernel)) rfl, by decide +kernel, by decide +kernel, by decide +kernel⟩
abbrev rm_Scene_begin : Room := { frames := 2, cells := 0, slots := 0, locals := 48 }
theorem f_Scene_40 : Cond.fieldLink R_Scene 40 (T_Scene 14).1 (T_Scene 14).2.1 (T_Scene 14).2.2.1 ∈ dk_tb := dk_in (List.mem_of_getElem? (i := 271) (by decide +kernel)) rfl
theorem f_Scene_43 : Cond.fieldLink R_Scene 43 (T_Scene 15).1 (T_Scene 15).2.1 (T_Scene 15).2.2.1 ∈ dk_tb := dk_in (List.mem_of_getElem? (i := 273) (by decide +kernel)) rfl
theorem f_Scene_75 : Cond.fieldLink R_Scene 75 (T_Scene 12).1 (T_Scene 12).2.1 (T_Scene 12).2.2.1 ∈ dk_tb := dk_in (List.mem_of_getElem? (i := 268) (by decide +kernel)) rfl
theorem f_Scene_78 : Cond.fieldLink R_Scene 78 (T_Land 4).1 (T_Land 4).2.1 (T_Land 4).2.2.1 ∈ dk_tb := dk_in (List.mem_of_getElem? (i := 110) (by decide +kernel)) rfl
theorem f_Scene_83 : Cond.fieldLink R_Scene 83 (T_Land 1).1 (T_Land 1).2.1 (T_Land 1).2.2.1 ∈ dk_tb := dk_in (List.mem_of_getElem? (i := 102) (by decide +kernel)) rfl
theorem f_Scene_90 : Cond.fieldLink R_Scene 90 (T_Land 2).1 (T_Land 2).2.1 (T_Land 2).2.2.1 ∈ dk_tb := dk_in (List.mem_of_getElem? (i := 105) (by decide +kernel)) rfl
theorem m_Scene_97 : Cond.methodLink R_Scene 97 y_Scene_makeForGround ∈ dk_tb := dk_in (List.mem_of_getElem? (i := 697) (by decide +kernel)) rfl
def B_Scene_begin_80 (n T : Nat) (k12 : Int32 → dk_S → Option dk_S) (x1 : Int32) (S : dk_S) : Option dk_S :=
  dk_cv (F_Scene_makeForGround n T x1 (0 : Int32) S) fun S1 => k12 (x1 + (1 : Int32)) S1
set_option maxRecDepth 20000 in
theorem kb_Scene_begin_80 {p : Program} {l : Launch} {e : Env} {s : State} {m : MethodId} {args : Array Value} {below : List Frame} {meth : Method} {c : Code} {g : dk_G} {A : Nat → Prop} {Q : State → Prop} {ad : Nat → Nat} {T : Nat} {n : Nat} {res : dk_S} (X : dk_X p s m args meth c b_Scene_begin 2 R_Scene (none) g A) (hR : dk_Rv p l e rm_Scene_begin s m args below meth c g A Q 2 b_Scene_begin (none) (wC g ad T) res) {k12 : Int32 → dk_S → Option dk_S} (hk12 : ∀ (x1 : Int32)  (S : dk_S), k12 x1 S = some res → dk_J p l e rm_Scene_begin s m args below meth c g A Q 2 0 0 12 [(0, .ref (ad 18)), (1, .int x1)] [] (wC g ad T S)) {x1 : Int32} {S : dk_S}  (hF : B_Scene_begin_80 n T k12 x1 S = some res) : dk_J p l e rm_Scene_begin s m args below meth c g A Q 2 0 0 80 [(0, .ref (ad 18)), (1, .int x1)] [] (wC g ad T S) := by
  unfold B_Scene_begin_80 at hF
  refine dk_aload_n (k := 0) (i := 0) X 0 rfl rfl d_Scene_begin_80 ?_
  refine dk_iload_n (k := 1) (i := 1) X 1 rfl rfl d_Scene_begin_81 ?_
  refine dk_iconst (v := 0) X (by decide) d_Scene_begin_82 ?_
  refine dk_callVv X v_Scene_makeForGround [.int x1, .int (0 : Int32)] (c_Scene_makeForGround l g ad T n x1 (0 : Int32) S) 18 (oC_Scene g ad T S) rfl rfl m_Scene_97 rfl rfl ⟨rfl, rfl, Nat.le_of_ble_eq_true rfl, Nat.le_of_ble_eq_true rfl, Nat.le_refl _, Nat.le_refl _⟩ (Nat.le_of_ble_eq_true rfl) d_Scene_begin_83 hF (fun S1 hF => ?_)
  refine dk_iinc (i := 1) (v := (x1 + (1 : Int32))) (lv' := [(1, .int (x1 + (1 : Int32))), (0, .ref (ad 18))]) X 1 rfl (dk_ii _ (by decide)) (by decide) rfl d_Scene_begin_86 ?_
  refine dk_goto (tgt := 12) X (by decide) d_Scene_begin_89 ?_
  exact dk_sub [1, 0] rfl (hk12 (x1 + (1 : Int32)) S1 hF)
def B_Scene_begin_12b (n T : Nat) (k12 : Int32 → dk_S → Option dk_S) (x1 : Int32) (S : dk_S) : Option dk_S :=
  if (S 103 0) ≤ x1 then (some S) else (dk_r 6 (S 3) x1 fun v3 => dk_w S 27 6 x1 v3 fun S4 => dk_w S4 28 6 x1 (0 : Int32) fun S5 => dk_w S5 29 6 x1 (vp_nar .boolean (0 : Int32)) fun S6 => dk_c (F_Land_isTame n T x1 S6) fun r8 S7 => if r8 = 0 then (B_Scene_begin_80 n T k12 x1 S7) else (dk_r 6 (S7 4) x1 fun v9 => dk_cv (F_Scene_make n T (5 : Int32) x1 v9 (0 : Int32) (0 : Int32) S7) fun S10 => B_Scene_begin_80 n T k12 x1 S10))
set_option maxRecDepth 20000 in
theorem kb_Scene_begin_12b {p : Program} {l : Launch} {e : Env} {s : State} {m : MethodId} {args : Array Value} {below : List Frame} {meth : Method} {c : Code} {g : dk_G} {A : Nat → Prop} {Q : State → Prop} {ad : Nat → Nat} {T : Nat} {n : Nat} {res : dk_S} (X : dk_X p s m args meth c b_Scene_begin 2 R_Scene (none) g A) (hR : dk_Rv p l e rm_Scene_begin s m args below meth c g A Q 2 b_Scene_begin (none) (wC g ad T) res) {k12 : Int32 → dk_S → Option dk_S} (hk12 : ∀ (x1 : Int32)  (S : dk_S), k12 x1 S = some res → dk_J p l e rm_Scene_begin s m args below meth c g A Q 2 0 0 12 [(0, .ref (ad 18)), (1, .int x1)] [] (wC g ad T S)) {x1 : Int32} {S : dk_S}  (hF : B_Scene_begin_12b n T k12 x1 S = some res) : dk_J p l e rm_Scene_begin s m args below meth c g A Q 2 0 0 12 [(0, .ref (ad 18)), (1, .int x1)] [] (wC g ad T S) := by
  unfold B_Scene_begin_12b at hF
  refine dk_iload_n (k := 1) (i := 1) X 1 rfl rfl d_Scene_begin_12 ?_
  refine dk_aload_n (k := 0) (i := 0) X 0 rfl rfl d_Scene_begin_13 ?_
  refine dk_get X q_Scene 18 0 (by decide) (oC_Scene g ad T S) rfl f_Scene_46 d_Scene_begin_14 ?_
  refine dk_get X q_Land 1 4 (by decide) (oC_Land g ad T S) rfl f_Scene_78 d_Scene_begin_17 ?_
  refine dk_icmp_ge (tgt := 92) X (by decide) d_Scene_begin_20 hF (fun hF => ?_) (fun hF => ?_)
  · exact dk_retv hR hF d_Scene_begin_92
  · refine dk_aload_n (k := 0) (i := 0) X 0 rfl rfl d_Scene_begin_23 ?_
    refine dk_get X q_Scene 18 13 (by decide) (oC_Scene g ad T S) rfl f_Scene_37 d_Scene_begin_24 ?_
    refine dk_iload_n (k := 1) (i := 1) X 1 rfl rfl d_Scene_begin_27 ?_
    refine dk_aload_n (k := 0) (i := 0) X 0 rfl rfl d_Scene_begin_28 ?_
    refine dk_get X q_Scene 18 0 (by decide) (oC_Scene g ad T S) rfl f_Scene_46 d_Scene_begin_29 ?_
    refine dk_get X q_Land 1 1 (by decide) (oC_Land g ad T S) rfl f_Scene_83 d_Scene_begin_32 ?_
    refine dk_iload_n (k := 1) (i := 1) X 1 rfl rfl d_Scene_begin_35 ?_
    refine dk_iald X 3 (aC_3 g ad T S) d_Scene_begin_36 hF (fun v3 hF => ?_)
    refine dk_iast X 27 (aC_27 g ad T S) (sC_27 g ad T S _ _) d_Scene_begin_37 hF (fun S4 hF => ?_)
    refine dk_aload_n (k := 0) (i := 0) X 0 rfl rfl d_Scene_begin_38 ?_
    refine dk_get X q_Scene 18 14 (by decide) (oC_Scene g ad T S4) rfl f_Scene_40 d_Scene_begin_39 ?_
    refine dk_iload_n (k := 1) (i := 1) X 1 rfl rfl d_Scene_begin_42 ?_
    refine dk_iconst (v := 0) X (by decide) d_Scene_begin_43 ?_
    refine dk_iast X 28 (aC_28 g ad T S4) (sC_28 g ad T S4 _ _) d_Scene_begin_44 hF (fun S5 hF => ?_)
    refine dk_aload_n (k := 0) (i := 0) X 0 rfl rfl d_Scene_begin_45 ?_
    refine dk_get X q_Scene 18 15 (by decide) (oC_Scene g ad T S5) rfl f_Scene_43 d_Scene_begin_46 ?_
    refine dk_iload_n (k := 1) (i := 1) X 1 rfl rfl d_Scene_begin_49 ?_
    refine dk_iconst (v := 0) X (by decide) d_Scene_begin_50 ?_
    refine dk_zast X 29 (aC_29 g ad T S5) (sC_29 g ad T S5 _ _) d_Scene_begin_51 hF (fun S6 hF => ?_)
    refine dk_aload_n (k := 0) (i := 0) X 0 rfl rfl d_Scene_begin_52 ?_
    refine dk_get X q_Scene 18 0 (by decide) (oC_Scene g ad T S6) rfl f_Scene_46 d_Scene_begin_53 ?_
    refine dk_iload_n (k := 1) (i := 1) X 1 rfl rfl d_Scene_begin_56 ?_
    refine dk_callVi X v_Land_isTame [.int x1] (c_Land_isTame l g ad T n x1 S6) 1 (oC_Land g ad T S6) rfl rfl m_Scene_86 rfl rfl ⟨rfl, rfl, Nat.le_of_ble_eq_true rfl, Nat.le_of_ble_eq_true rfl, Nat.le_refl _, Nat.le_refl _⟩ (Nat.le_of_ble_eq_true rfl) d_Scene_begin_57 hF (fun r8 S7 hF => ?_)
    refine dk_if_eq (tgt := 80) X (by decide) d_Scene_begin_60 hF (fun hF => ?_) (fun hF => ?_)
    · exact (kb_Scene_begin_80 (n := n) X hR hk12  hF)
    · refine dk_aload_n (k := 0) (i := 0) X 0 rfl rfl d_Scene_begin_63 ?_
      refine dk_iconst (v := 5) X (by decide) d_Scene_begin_64 ?_
      refine dk_iload_n (k := 1) (i := 1) X 1 rfl rfl d_Scene_begin_65 ?_
      refine dk_aload_n (k := 0) (i := 0) X 0 rfl rfl d_Scene_begin_66 ?_
      refine dk_get X q_Scene 18 0 (by decide) (oC_Scene g ad T S7) rfl f_Scene_46 d_Scene_begin_67 ?_
      refine dk_get X q_Land 1 2 (by decide) (oC_Land g ad T S7) rfl f_Scene_90 d_Scene_begin_70 ?_
      refine dk_iload_n (k := 1) (i := 1) X 1 rfl rfl d_Scene_begin_73 ?_
      refine dk_iald X 4 (aC_4 g ad T S7) d_Scene_begin_74 hF (fun v9 hF => ?_)
      refine dk_iconst (v := 0) X (by decide) d_Scene_begin_75 ?_
      refine dk_iconst (v := 0) X (by decide) d_Scene_begin_76 ?_
      refine dk_callVv X v_Scene_make [.int (5 : Int32), .int x1, .int v9, .int (0 : Int32), .int (0 : Int32)] (c_Scene_make l g ad T n (5 : Int32) x1 v9 (0 : Int32) (0 : Int32) S7) 18 (oC_Scene g ad T S7) rfl rfl m_Scene_93 rfl rfl ⟨rfl, rfl, Nat.le_of_ble_eq_true rfl, Nat.le_of_ble_eq_true rfl, Nat.le_refl _, Nat.le_refl _⟩ (Nat.le_of_ble_eq_true rfl) d_Scene_begin_77 hF (fun S10 hF => ?_)
      exact (kb_Scene_begin_80 (n := n) X hR hk12  hF)
def B_Scene_begin_12 (n T : Nat)  : Nat → Int32 → dk_S → Option dk_S
  | 0 => fun _ _ => none
  | q + 1 => fun x1 S => B_Scene_begin_12b n T (fun x1 S => B_Scene_begin_12 n T  q x1 S) x1 S
theorem kb_Scene_begin_12 {p : Program} {l : Launch} {e : Env} {s : State} {m : MethodId} {args : Array Value} {below : List Frame} {meth : Method} {c : Code} {g : dk_G} {A : Nat → Prop} {Q : State → Prop} {ad : Nat → Nat} {T : Nat} {n : Nat} {res : dk_S} (X : dk_X p s m args meth c b_Scene_begin 2 R_Scene (none) g A) (hR : dk_Rv p l e rm_Scene_begin s m args below meth c g A Q 2 b_Scene_begin (none) (wC g ad T) res)  : ∀ (q : Nat) (x1 : Int32)  (S : dk_S), B_Scene_begin_12 n T  q x1 S = some res → dk_J p l e rm_Scene_begin s m args below meth c g A Q 2 0 0 12 [(0, .ref (ad 18)), (1, .int x1)] [] (wC g ad T S) := by
  intro q
  induction q with
  | zero => intro x1  S hF; cases hF
  | succ q ih => intro x1  S hF; exact kb_Scene_begin_12b (n := n) X hR ih  hF
def B_Scene_begin_0 (n T : Nat)   (S : dk_S) : Option dk_S :=
  dk_p S 115 (0 : Int32) fun S12 => dk_p S12 116 (0 : Int32) fun S13 => B_Scene_begin_12 n T  n (0 : Int32) S13
set_option maxRecDepth 20000 in
theorem kb_Scene_begin_0 {p : Program} {l : Launch} {e : Env} {s : State} {m : MethodId} {args : Array Value} {below : List Frame} {meth : Method} {c : Code} {g : dk_G} {A : Nat → Prop} {Q : State → Prop} {ad : Nat → Nat} {T : Nat} {n : Nat} {res : dk_S} (X : dk_X p s m args meth c b_Scene_begin 2 R_Scene (none) g A) (hR : dk_Rv p l e rm_Scene_begin s m args below meth c g A Q 2 b_Scene_begin (none) (wC g ad T) res)   {S : dk_S}  (hF : B_Scene_begin_0 n T   S = some res) : dk_J p l e rm_Scene_begin s m args below meth c g A Q 2 0 0 0 [(0, .ref (ad 18))] [] (wC g ad T S) := by
  unfold B_Scene_begin_0 at hF
  refine dk_aload_n (k := 0) (i := 0) X 0 rfl rfl d_Scene_begin_0 ?_
  refine dk_iconst (v := 0) X (by decide) d_Scene_begin_1 ?_
  refine dk_puti X q_Scene 18 11 (by decide) (oC_Scene g ad T S) f_Scene_58 rfl rfl (Nat.le_of_ble_eq_true rfl) (sC_Scene_size g ad T S _) d_Scene_begin_2 hF (fun S12 hF => ?_)
  refine dk_aload_n (k := 0) (i := 0) X 0 rfl rfl d_Scene_begin_5 ?_
  refine dk_iconst (v := 0) X (by decide) d_Scene_begin_6 ?_
  refine dk_puti X q_Scene 18 12 (by decide) (oC_Scene g ad T S12) f_Scene_75 rfl rfl (Nat.le_of_ble_eq_true rfl) (sC_Scene_now g ad T S12 _) d_Scene_begin_7 hF (fun S13 hF => ?_)
  refine dk_iconst (v := 0) X (by decide) d_Scene_begin_10 ?_
  refine dk_istore_n (k := 1) (i := 1) (lv' := [(1, .int (0 : Int32)), (0, .ref (ad 18))]) X rfl (by decide) rfl d_Scene_begin_11 ?_
  exact dk_sub [1, 0] rfl (kb_Scene_begin_12 (n := n) X hR  n (0 : Int32) S13 hF)
def F_Scene_begin (n T : Nat)  (S : dk_S) : Option dk_S := B_Scene_begin_0 n T  S
theorem c_Scene_begin (l : Launch) (g : dk_G) (ad : Nat → Nat) (T n : Nat)   (S : dk_S) : dk_Mv l g y_Scene_begin b_Scene_begin 2 rm_Scene_begin (none) [.ref (ad 18)] (wC g ad T) S (F_Scene_begin n T  S) := dk_enterv (by decide) rfl (Nat.le_of_ble_eq_true rfl) (fun p e s m args below meth c A Q res hF X hR => (kb_Scene_begin_0 (n := n) X hR  hF))
abbrev b_Scene_cross : ByteArray := prog_7_method_11_code
def y_Scene_cross : MethodName := ⟨R_Scene, "cross", "(III)V"⟩
theorem d_Scene_cross_0 : decode b_Scene_cross 0 = .ok (.aload_n 0, 1) := by decide +kernel
theorem d_Scene_cross_1 : decode b_Scene_cross 1 = .ok (.getfield 43, 3) := by decide +kernel
theorem d_Scene_cross_4 : decode b_Scene_cross 4 = .ok (.iload_n 1, 1) := by decide +kernel
theorem d_Scene_cross_5 : decode b_Scene_cross 5 = .ok (.baload, 1) := by decide +kernel
theorem d_Scene_cross_6 : decode b_Scene_cross 6 = .ok (.ifCond .ne 13, 3) := by decide +kernel
theorem d_Scene_cross_9 : decode b_Scene_cross 9 = .ok (.aload_n 0, 1) := by decide +kernel
theorem d_Scene_cross_10 : decode b_Scene_cross 10 = .ok (.getfield 37, 3) := by decide +kernel
theorem d_Scene_cross_13 : decode b_Scene_cross 13 = .ok (.iload_n 1, 1) := by decide +kernel
theorem d_Scene_cross_14 : decode b_Scene_cross 14 = .ok (.iaload, 1) := by decide +kernel
theorem d_Scene_cross_15 : decode b_Scene_cross 15 = .ok (.iload_n 2, 1) := by decide +kernel
theorem d_Scene_cross_16 : decode b_Scene_cross 16 = .ok (.if_icmp .ne 4, 3) := by decide +kernel
theorem d_Scene_cross_19 : decode b_Scene_cross 19 = .ok (.return_, 1) := by decide +kernel
theorem d_Scene_cross_20 : decode b_Scene_cross 20 = .ok (.aload_n 0, 1) := by decide +kernel
theorem d_Scene_cross_21 : decode b_Scene_cross 21 = .ok (.getfield 37, 3) := by decide +kernel
theorem d_Scene_cross_24 : decode b_Scene_cross 24 = .ok (.iload_n 1, 1) := by decide +kernel
theorem d_Scene_cross_25 : decode b_Scene_cross 25 = .ok (.iaload, 1) := by decide +kernel
theorem d_Scene_cross_26 : decode b_Scene_cross 26 = .ok (.aload_n 0, 1) := by decide +kernel
theorem d_Scene_cross_27 : decode b_Scene_cross 27 = .ok (.getfield 46, 3) := by decide +kernel
theorem d_Scene_cross_30 : decode b_Scene_cross 30 = .ok (.getfield 83, 3) := by decide +kernel
theorem d_Scene_cross_33 : decode b_Scene_cross 33 = .ok (.iload_n 1, 1) := by decide +kernel
theorem d_Scene_cross_34 : decode b_Scene_cross 34 = .ok (.iaload, 1) := by decide +kernel
theorem d_Scene_cross_35 : decode b_Scene_cross 35 = .ok (.if_icmp .ne 10, 3) := by decide +kernel
theorem d_Scene_cross_38 : decode b_Scene_cross 38 = .ok (.aload_n 0, 1) := by decide +kernel
theorem d_Scene_cross_39 : decode b_Scene_cross 39 = .ok (.getfield 40, 3) := by decide +kernel
theorem d_Scene_cross_42 : decode b_Scene_cross 42 = .ok (.iload_n 1, 1) := by decide +kernel
theorem d_Scene_cross_43 : decode b_Scene_cross 43 = .ok (.iload_n 3, 1) := by decide +kernel
theorem d_Scene_cross_44 : decode b_Scene_cross 44 = .ok (.iastore, 1) := by decide +kernel
theorem d_Scene_cross_45 : decode b_Scene_cross 45 = .ok (.aload_n 0, 1) := by decide +kernel
theorem d_Scene_cross_46 : decode b_Scene_cross 46 = .ok (.getfield 37, 3) := by decide +kernel
theorem d_Scene_cross_49 : decode b_Scene_cross 49 = .ok (.iload_n 1, 1) := by decide +kernel
theorem d_Scene_cross_50 : decode b_Scene_cross 50 = .ok (.iload_n 2, 1) := by decide +kernel
theorem d_Scene_cross_51 : decode b_Scene_cross 51 = .ok (.iastore, 1) := by decide +kernel
theorem d_Scene_cross_52 : decode b_Scene_cross 52 = .ok (.aload_n 0, 1) := by decide +kernel
theorem d_Scene_cross_53 : decode b_Scene_cross 53 = .ok (.iload_n 1, 1) := by decide +kernel
theorem d_Scene_cross_54 : decode b_Scene_cross 54 = .ok (.iload_n 3, 1) := by decide +kernel
theorem d_Scene_cross_55 : decode b_Scene_cross 55 = .ok (.invokevirtual 97, 3) := by decide +kernel
theorem d_Scene_cross_58 : decode b_Scene_cross 58 = .ok (.return_, 1) := by decide +kernel
theorem v_Scene_cross : dk_Yv y_Scene_cross b_Scene_cross 4 (none) 3 := ⟨dk_in (List.mem_of_getElem? (i := 717) (by decide +kernel)) rfl, dk_in (List.mem_of_getElem? (i := 21) (by decide +kernel)) rfl, dk_in (List.mem_of_getElem? (i := 72) (by decide +kernel)) rfl, dk_in (List.mem_of_getElem? (i := 718) (by decide +kernel)) rfl, by decide +kernel, by decide +kernel, by decide +kernel⟩
abbrev rm_Scene_cross : Room := { frames := 2, cells := 0, slots := 0, locals := 48 }
def B_Scene_cross_45 (n T : Nat)  (x1 : Int32) (x2 : Int32) (x3 : Int32) (S : dk_S) : Option dk_S :=
  dk_w S 27 6 x1 x2 fun S1 => dk_cv (F_Scene_makeForGround n T x1 x3 S1) fun S2 => some S2
set_option maxRecDepth 20000 in
theorem kb_Scene_cross_45 {p : Program} {l : Launch} {e : Env} {s : State} {m : MethodId} {args : Array Value} {below : List Frame} {meth : Method} {c : Code} {g : dk_G} {A : Nat → Prop} {Q : State → Prop} {ad : Nat → Nat} {T : Nat} {n : Nat} {res : dk_S} (X : dk_X p s m args meth c b_Scene_cross 4 R_Scene (none) g A) (hR : dk_Rv p l e rm_Scene_cross s m args below meth c g A Q 4 b_Scene_cross (none) (wC g ad T) res)  {x1 : Int32} {x2 : Int32} {x3 : Int32} {S : dk_S}  (hF : B_Scene_cross_45 n T  x1 x2 x3 S = some res) : dk_J p l e rm_Scene_cross s m args below meth c g A Q 4 0 0 45 [(0, .ref (ad 18)), (1, .int x1), (2, .int x2), (3, .int x3)] [] (wC g ad T S) := by
  unfold B_Scene_cross_45 at hF
  refine dk_aload_n (k := 0) (i := 0) X 0 rfl rfl d_Scene_cross_45 ?_
  refine dk_get X q_Scene 18 13 (by decide) (oC_Scene g ad T S) rfl f_Scene_37 d_Scene_cross_46 ?_
  refine dk_iload_n (k := 1) (i := 1) X 1 rfl rfl d_Scene_cross_49 ?_
  refine dk_iload_n (k := 2) (i := 2) X 2 rfl rfl d_Scene_cross_50 ?_
  refine dk_iast X 27 (aC_27 g ad T S) (sC_27 g ad T S _ _) d_Scene_cross_51 hF (fun S1 hF => ?_)
  refine dk_aload_n (k := 0) (i := 0) X 0 rfl rfl d_Scene_cross_52 ?_
  refine dk_iload_n (k := 1) (i := 1) X 1 rfl rfl d_Scene_cross_53 ?_
  refine dk_iload_n (k := 3) (i := 3) X 3 rfl rfl d_Scene_cross_54 ?_
  refine dk_callVv X v_Scene_makeForGround [.int x1, .int x3] (c_Scene_makeForGround l g ad T n x1 x3 S1) 18 (oC_Scene g ad T S1) rfl rfl m_Scene_97 rfl rfl ⟨rfl, rfl, Nat.le_of_ble_eq_true rfl, Nat.le_of_ble_eq_true rfl, Nat.le_refl _, Nat.le_refl _⟩ (Nat.le_of_ble_eq_true rfl) d_Scene_cross_55 hF (fun S2 hF => ?_)
  exact dk_retv hR hF d_Scene_cross_58
def B_Scene_cross_0 (n T : Nat)  (x1 : Int32) (x2 : Int32) (x3 : Int32) (S : dk_S) : Option dk_S :=
  dk_r 6 (S 29) x1 fun v4 => if ¬ v4 = 0 then (some S) else (dk_r 6 (S 27) x1 fun v5 => if ¬ v5 = x2 then (dk_r 6 (S 27) x1 fun v6 => dk_r 6 (S 3) x1 fun v7 => if ¬ v6 = v7 then (B_Scene_cross_45 n T  x1 x2 x3 S) else (dk_w S 28 6 x1 x3 fun S8 => B_Scene_cross_45 n T  x1 x2 x3 S8)) else (some S))
set_option maxRecDepth 20000 in
theorem kb_Scene_cross_0 {p : Program} {l : Launch} {e : Env} {s : State} {m : MethodId} {args : Array Value} {below : List Frame} {meth : Method} {c : Code} {g : dk_G} {A : Nat → Prop} {Q : State → Prop} {ad : Nat → Nat} {T : Nat} {n : Nat} {res : dk_S} (X : dk_X p s m args meth c b_Scene_cross 4 R_Scene (none) g A) (hR : dk_Rv p l e rm_Scene_cross s m args below meth c g A Q 4 b_Scene_cross (none) (wC g ad T) res)  {x1 : Int32} {x2 : Int32} {x3 : Int32} {S : dk_S}  (hF : B_Scene_cross_0 n T  x1 x2 x3 S = some res) : dk_J p l e rm_Scene_cross s m args below meth c g A Q 4 0 0 0 [(0, .ref (ad 18)), (1, .int x1), (2, .int x2), (3, .int x3)] [] (wC g ad T S) := by
  unfold B_Scene_cross_0 at hF
  refine dk_aload_n (k := 0) (i := 0) X 0 rfl rfl d_Scene_cross_0 ?_
  refine dk_get X q_Scene 18 15 (by decide) (oC_Scene g ad T S) rfl f_Scene_43 d_Scene_cross_1 ?_
  refine dk_iload_n (k := 1) (i := 1) X 1 rfl rfl d_Scene_cross_4 ?_
  refine dk_zald X 29 (aC_29 g ad T S) d_Scene_cross_5 hF (fun v4 hF => ?_)
  refine dk_if_ne (tgt := 19) X (by decide) d_Scene_cross_6 hF (fun hF => ?_) (fun hF => ?_)
  · exact dk_retv hR hF d_Scene_cross_19
  · refine dk_aload_n (k := 0) (i := 0) X 0 rfl rfl d_Scene_cross_9 ?_
    refine dk_get X q_Scene 18 13 (by decide) (oC_Scene g ad T S) rfl f_Scene_37 d_Scene_cross_10 ?_
    refine dk_iload_n (k := 1) (i := 1) X 1 rfl rfl d_Scene_cross_13 ?_
    refine dk_iald X 27 (aC_27 g ad T S) d_Scene_cross_14 hF (fun v5 hF => ?_)
    refine dk_iload_n (k := 2) (i := 2) X 2 rfl rfl d_Scene_cross_15 ?_
    refine dk_icmp_ne (tgt := 20) X (by decide) d_Scene_cross_16 hF (fun hF => ?_) (fun hF => ?_)
    · refine dk_aload_n (k := 0) (i := 0) X 0 rfl rfl d_Scene_cross_20 ?_
      refine dk_get X q_Scene 18 13 (by decide) (oC_Scene g ad T S) rfl f_Scene_37 d_Scene_cross_21 ?_
      refine dk_iload_n (k := 1) (i := 1) X 1 rfl rfl d_Scene_cross_24 ?_
      refine dk_iald X 27 (aC_27 g ad T S) d_Scene_cross_25 hF (fun v6 hF => ?_)
      refine dk_aload_n (k := 0) (i := 0) X 0 rfl rfl d_Scene_cross_26 ?_
      refine dk_get X q_Scene 18 0 (by decide) (oC_Scene g ad T S) rfl f_Scene_46 d_Scene_cross_27 ?_
      refine dk_get X q_Land 1 1 (by decide) (oC_Land g ad T S) rfl f_Scene_83 d_Scene_cross_30 ?_
      refine dk_iload_n (k := 1) (i := 1) X 1 rfl rfl d_Scene_cross_33 ?_
      refine dk_iald X 3 (aC_3 g ad T S) d_Scene_cross_34 hF (fun v7 hF => ?_)
      refine dk_icmp_ne (tgt := 45) X (by decide) d_Scene_cross_35 hF (fun hF => ?_) (fun hF => ?_)
      · exact (kb_Scene_cross_45 (n := n) X hR   hF)
      · refine dk_aload_n (k := 0) (i := 0) X 0 rfl rfl d_Scene_cross_38 ?_
        refine dk_get X q_Scene 18 14 (by decide) (oC_Scene g ad T S) rfl f_Scene_40 d_Scene_cross_39 ?_
        refine dk_iload_n (k := 1) (i := 1) X 1 rfl rfl d_Scene_cross_42 ?_
        refine dk_iload_n (k := 3) (i := 3) X 3 rfl rfl d_Scene_cross_43 ?_
        refine dk_iast X 28 (aC_28 g ad T S) (sC_28 g ad T S _ _) d_Scene_cross_44 hF (fun S8 hF => ?_)
        exact (kb_Scene_cross_45 (n := n) X hR   hF)
    · exact dk_retv hR hF d_Scene_cross_19
def F_Scene_cross (n T : Nat) (x1 : Int32) (x2 : Int32) (x3 : Int32) (S : dk_S) : Option dk_S := B_Scene_cross_0 n T x1 x2 x3 S
theorem c_Scene_cross (l : Launch) (g : dk_G) (ad : Nat → Nat) (T n : Nat) (x1 : Int32) (x2 : Int32) (x3 : Int32)  (S : dk_S) : dk_Mv l g y_Scene_cross b_Scene_cross 4 rm_Scene_cross (none) [.ref (ad 18), .int x1, .int x2, .int x3] (wC g ad T) S (F_Scene_cross n T x1 x2 x3 S) := dk_enterv (by decide) rfl (Nat.le_of_ble_eq_true rfl) (fun p e s m args below meth c A Q res hF X hR => (kb_Scene_cross_0 (n := n) X hR  hF))
abbrev b_Scene_isHoldOf : ByteArray := prog_7_method_15_code
def y_Scene_isHoldOf : MethodName := ⟨R_Scene, "isHoldOf", "(II)Z"⟩
theorem d_Scene_isHoldOf_0 : decode b_Scene_isHoldOf 0 = .ok (.aload_n 0, 1) := by decide +kernel
theorem d_Scene_isHoldOf_1 : decode b_Scene_isHoldOf 1 = .ok (.getfield 9, 3) := by decide +kernel
theorem d_Scene_isHoldOf_4 : decode b_Scene_isHoldOf 4 = .ok (.iload_n 1, 1) := by decide +kernel
theorem d_Scene_isHoldOf_5 : decode b_Scene_isHoldOf 5 = .ok (.iaload, 1) := by decide +kernel
theorem d_Scene_isHoldOf_6 : decode b_Scene_isHoldOf 6 = .ok (.iconst 3, 1) := by decide +kernel
theorem d_Scene_isHoldOf_7 : decode b_Scene_isHoldOf 7 = .ok (.if_icmp .ne 17, 3) := by decide +kernel
theorem d_Scene_isHoldOf_10 : decode b_Scene_isHoldOf 10 = .ok (.aload_n 0, 1) := by decide +kernel
theorem d_Scene_isHoldOf_11 : decode b_Scene_isHoldOf 11 = .ok (.getfield 18, 3) := by decide +kernel
theorem d_Scene_isHoldOf_14 : decode b_Scene_isHoldOf 14 = .ok (.iload_n 1, 1) := by decide +kernel
theorem d_Scene_isHoldOf_15 : decode b_Scene_isHoldOf 15 = .ok (.iaload, 1) := by decide +kernel
theorem d_Scene_isHoldOf_16 : decode b_Scene_isHoldOf 16 = .ok (.iload_n 2, 1) := by decide +kernel
theorem d_Scene_isHoldOf_17 : decode b_Scene_isHoldOf 17 = .ok (.if_icmp .ne 7, 3) := by decide +kernel
theorem d_Scene_isHoldOf_20 : decode b_Scene_isHoldOf 20 = .ok (.iconst 1, 1) := by decide +kernel
theorem d_Scene_isHoldOf_21 : decode b_Scene_isHoldOf 21 = .ok (.goto 4, 3) := by decide +kernel
theorem d_Scene_isHoldOf_24 : decode b_Scene_isHoldOf 24 = .ok (.iconst 0, 1) := by decide +kernel
theorem d_Scene_isHoldOf_25 : decode b_Scene_isHoldOf 25 = .ok (.ireturn, 1) := by decide +kernel
theorem v_Scene_isHoldOf : dk_Yv y_Scene_isHoldOf b_Scene_isHoldOf 3 (some .boolean) 2 := ⟨dk_in (List.mem_of_getElem? (i := 733) (by decide +kernel)) rfl, dk_in (List.mem_of_getElem? (i := 25) (by decide +kernel)) rfl, dk_in (List.mem_of_getElem? (i := 72) (by decide +kernel)) rfl, dk_in (List.mem_of_getElem? (i := 734) (by decide +kernel)) rfl, by decide +kernel, by decide +kernel, by decide +kernel⟩
abbrev rm_Scene_isHoldOf : Room := { frames := 0, cells := 0, slots := 0, locals := 0 }
def B_Scene_isHoldOf_0 (n T : Nat)  (x1 : Int32) (x2 : Int32) (S : dk_S) : Option (Int32 × dk_S) :=
  dk_r 44 (S 19) x1 fun v1 => if ¬ v1 = (3 : Int32) then (dk_b (0 : Int32) (some ((0 : Int32), S))) else (dk_r 44 (S 21) x1 fun v2 => if ¬ v2 = x2 then (dk_b (0 : Int32) (some ((0 : Int32), S))) else (dk_b (1 : Int32) (some ((1 : Int32), S))))
set_option maxRecDepth 20000 in
theorem kb_Scene_isHoldOf_0 {p : Program} {l : Launch} {e : Env} {s : State} {m : MethodId} {args : Array Value} {below : List Frame} {meth : Method} {c : Code} {g : dk_G} {A : Nat → Prop} {Q : State → Prop} {ad : Nat → Nat} {T : Nat} {n : Nat} {res : (Int32 × dk_S)} (X : dk_X p s m args meth c b_Scene_isHoldOf 3 R_Scene (some .boolean) g A) (hR : dk_Ri p l e rm_Scene_isHoldOf s m args below meth c g A Q 3 b_Scene_isHoldOf (some .boolean) (wC g ad T) res)  {x1 : Int32} {x2 : Int32} {S : dk_S}  (hF : B_Scene_isHoldOf_0 n T  x1 x2 S = some res) : dk_J p l e rm_Scene_isHoldOf s m args below meth c g A Q 3 0 0 0 [(0, .ref (ad 18)), (1, .int x1), (2, .int x2)] [] (wC g ad T S) := by
  unfold B_Scene_isHoldOf_0 at hF
  refine dk_aload_n (k := 0) (i := 0) X 0 rfl rfl d_Scene_isHoldOf_0 ?_
  refine dk_get X q_Scene 18 3 (by decide) (oC_Scene g ad T S) rfl f_Scene_9 d_Scene_isHoldOf_1 ?_
  refine dk_iload_n (k := 1) (i := 1) X 1 rfl rfl d_Scene_isHoldOf_4 ?_
  refine dk_iald X 19 (aC_19 g ad T S) d_Scene_isHoldOf_5 hF (fun v1 hF => ?_)
  refine dk_iconst (v := 3) X (by decide) d_Scene_isHoldOf_6 ?_
  refine dk_icmp_ne (tgt := 24) X (by decide) d_Scene_isHoldOf_7 hF (fun hF => ?_) (fun hF => ?_)
  · refine dk_iconst (v := 0) X (by decide) d_Scene_isHoldOf_24 ?_
    exact dk_retz hR hF d_Scene_isHoldOf_25
  · refine dk_aload_n (k := 0) (i := 0) X 0 rfl rfl d_Scene_isHoldOf_10 ?_
    refine dk_get X q_Scene 18 5 (by decide) (oC_Scene g ad T S) rfl f_Scene_18 d_Scene_isHoldOf_11 ?_
    refine dk_iload_n (k := 1) (i := 1) X 1 rfl rfl d_Scene_isHoldOf_14 ?_
    refine dk_iald X 21 (aC_21 g ad T S) d_Scene_isHoldOf_15 hF (fun v2 hF => ?_)
    refine dk_iload_n (k := 2) (i := 2) X 2 rfl rfl d_Scene_isHoldOf_16 ?_
    refine dk_icmp_ne (tgt := 24) X (by decide) d_Scene_isHoldOf_17 hF (fun hF => ?_) (fun hF => ?_)
    · refine dk_iconst (v := 0) X (by decide) d_Scene_isHoldOf_24 ?_
      exact dk_retz hR hF d_Scene_isHoldOf_25
    · refine dk_iconst (v := 1) X (by decide) d_Scene_isHoldOf_20 ?_
      refine dk_goto (tgt := 25) X (by decide) d_Scene_isHoldOf_21 ?_
      exact dk_retz hR hF d_Scene_isHoldOf_25
def F_Scene_isHoldOf (n T : Nat) (x1 : Int32) (x2 : Int32) (S : dk_S) : Option (Int32 × dk_S) := B_Scene_isHoldOf_0 n T x1 x2 S
theorem c_Scene_isHoldOf (l : Launch) (g : dk_G) (ad : Nat → Nat) (T n : Nat) (x1 : Int32) (x2 : Int32)  (S : dk_S) : dk_Mi l g y_Scene_isHoldOf b_Scene_isHoldOf 3 rm_Scene_isHoldOf (some .boolean) [.ref (ad 18), .int x1, .int x2] (wC g ad T) S (F_Scene_isHoldOf n T x1 x2 S) := dk_enteri (by decide) (Nat.le_of_ble_eq_true rfl) (fun p e s m args below meth c A Q res hF X hR => (kb_Scene_isHoldOf_0 (n := n) X hR  hF))
abbrev b_Scene_give : ByteArray := prog_7_method_14_code
def y_Scene_give : MethodName := ⟨R_Scene, "give", "(III)V"⟩
theorem d_Scene_give_0 : decode b_Scene_give 0 = .ok (.iconst 0, 1) := by decide +kernel
theorem d_Scene_give_1 : decode b_Scene_give 1 = .ok (.istore 4, 2) := by decide +kernel
theorem d_Scene_give_3 : decode b_Scene_give 3 = .ok (.iload 4, 2) := by decide +kernel
theorem d_Scene_give_5 : decode b_Scene_give 5 = .ok (.aload_n 0, 1) := by decide +kernel
theorem d_Scene_give_6 : decode b_Scene_give 6 = .ok (.getfield 58, 3) := by decide +kernel
theorem d_Scene_give_9 : decode b_Scene_give 9 = .ok (.if_icmp .ge 38, 3) := by decide +kernel
theorem d_Scene_give_12 : decode b_Scene_give 12 = .ok (.aload_n 0, 1) := by decide +kernel
theorem d_Scene_give_13 : decode b_Scene_give 13 = .ok (.iload 4, 2) := by decide +kernel
theorem d_Scene_give_15 : decode b_Scene_give 15 = .ok (.iload_n 1, 1) := by decide +kernel
theorem d_Scene_give_16 : decode b_Scene_give 16 = .ok (.invokevirtual 146, 3) := by decide +kernel
theorem d_Scene_give_19 : decode b_Scene_give 19 = .ok (.ifCond .eq 22, 3) := by decide +kernel
theorem d_Scene_give_22 : decode b_Scene_give 22 = .ok (.aload_n 0, 1) := by decide +kernel
theorem d_Scene_give_23 : decode b_Scene_give 23 = .ok (.getfield 15, 3) := by decide +kernel
theorem d_Scene_give_26 : decode b_Scene_give 26 = .ok (.iload 4, 2) := by decide +kernel
theorem d_Scene_give_28 : decode b_Scene_give 28 = .ok (.iaload, 1) := by decide +kernel
theorem d_Scene_give_29 : decode b_Scene_give 29 = .ok (.iload_n 2, 1) := by decide +kernel
theorem d_Scene_give_30 : decode b_Scene_give 30 = .ok (.if_icmp .ne 11, 3) := by decide +kernel
theorem d_Scene_give_33 : decode b_Scene_give 33 = .ok (.aload_n 0, 1) := by decide +kernel
theorem d_Scene_give_34 : decode b_Scene_give 34 = .ok (.getfield 15, 3) := by decide +kernel
theorem d_Scene_give_37 : decode b_Scene_give 37 = .ok (.iload 4, 2) := by decide +kernel
theorem d_Scene_give_39 : decode b_Scene_give 39 = .ok (.iload_n 3, 1) := by decide +kernel
theorem d_Scene_give_40 : decode b_Scene_give 40 = .ok (.iastore, 1) := by decide +kernel
theorem d_Scene_give_41 : decode b_Scene_give 41 = .ok (.iinc 4 1, 3) := by decide +kernel
theorem d_Scene_give_44 : decode b_Scene_give 44 = .ok (.goto (-41), 3) := by decide +kernel
theorem d_Scene_give_47 : decode b_Scene_give 47 = .ok (.return_, 1) := by decide +kernel
theorem v_Scene_give : dk_Yv y_Scene_give b_Scene_give 5 (none) 3 := ⟨dk_in (List.mem_of_getElem? (i := 737) (by decide +kernel)) rfl, dk_in (List.mem_of_getElem? (i := 26) (by decide +kernel)) rfl, dk_in (List.mem_of_getElem? (i := 72) (by decide +kernel)) rfl, dk_in (List.mem_of_getElem? (i := 738) (by decide +kernel)) rfl, by decide +kernel, by decide +kernel, by decide +kernel⟩
abbrev rm_Scene_give : Room := { frames := 1, cells := 0, slots := 0, locals := 22 }
theorem m_Scene_146 : Cond.methodLink R_Scene 146 y_Scene_isHoldOf ∈ dk_tb := dk_in (List.mem_of_getElem? (i := 731) (by decide +kernel)) rfl
def B_Scene_give_41 (n T : Nat) (k3 : Int32 → Int32 → Int32 → Int32 → dk_S → Option dk_S) (x1 : Int32) (x2 : Int32) (x3 : Int32) (x4 : Int32) (S : dk_S) : Option dk_S :=
  k3 x1 x2 x3 (x4 + (1 : Int32)) S
set_option maxRecDepth 20000 in
theorem kb_Scene_give_41 {p : Program} {l : Launch} {e : Env} {s : State} {m : MethodId} {args : Array Value} {below : List Frame} {meth : Method} {c : Code} {g : dk_G} {A : Nat → Prop} {Q : State → Prop} {ad : Nat → Nat} {T : Nat} {n : Nat} {res : dk_S} (X : dk_X p s m args meth c b_Scene_give 5 R_Scene (none) g A) (hR : dk_Rv p l e rm_Scene_give s m args below meth c g A Q 5 b_Scene_give (none) (wC g ad T) res) {k3 : Int32 → Int32 → Int32 → Int32 → dk_S → Option dk_S} (hk3 : ∀ (x1 : Int32) (x2 : Int32) (x3 : Int32) (x4 : Int32)  (S : dk_S), k3 x1 x2 x3 x4 S = some res → dk_J p l e rm_Scene_give s m args below meth c g A Q 5 0 0 3 [(0, .ref (ad 18)), (1, .int x1), (2, .int x2), (3, .int x3), (4, .int x4)] [] (wC g ad T S)) {x1 : Int32} {x2 : Int32} {x3 : Int32} {x4 : Int32} {S : dk_S}  (hF : B_Scene_give_41 n T k3 x1 x2 x3 x4 S = some res) : dk_J p l e rm_Scene_give s m args below meth c g A Q 5 0 0 41 [(0, .ref (ad 18)), (1, .int x1), (2, .int x2), (3, .int x3), (4, .int x4)] [] (wC g ad T S) := by
  unfold B_Scene_give_41 at hF
  refine dk_iinc (i := 4) (v := (x4 + (1 : Int32))) (lv' := [(4, .int (x4 + (1 : Int32))), (0, .ref (ad 18)), (1, .int x1), (2, .int x2), (3, .int x3)]) X 4 rfl (dk_ii _ (by decide)) (by decide) rfl d_Scene_give_41 ?_
  refine dk_goto (tgt := 3) X (by decide) d_Scene_give_44 ?_
  exact dk_sub [1, 2, 3, 4, 0] rfl (hk3 x1 x2 x3 (x4 + (1 : Int32)) S hF)
def B_Scene_give_3b (n T : Nat) (k3 : Int32 → Int32 → Int32 → Int32 → dk_S → Option dk_S) (x1 : Int32) (x2 : Int32) (x3 : Int32) (x4 : Int32) (S : dk_S) : Option dk_S :=
  if (S 115 0) ≤ x4 then (some S) else (dk_c (F_Scene_isHoldOf n T x4 x1 S) fun r2 S1 => if r2 = 0 then (B_Scene_give_41 n T k3 x1 x2 x3 x4 S1) else (dk_r 44 (S1 20) x4 fun v3 => if ¬ v3 = x2 then (B_Scene_give_41 n T k3 x1 x2 x3 x4 S1) else (dk_w S1 20 44 x4 x3 fun S4 => B_Scene_give_41 n T k3 x1 x2 x3 x4 S4)))
set_option maxRecDepth 20000 in
theorem kb_Scene_give_3b {p : Program} {l : Launch} {e : Env} {s : State} {m : MethodId} {args : Array Value} {below : List Frame} {meth : Method} {c : Code} {g : dk_G} {A : Nat → Prop} {Q : State → Prop} {ad : Nat → Nat} {T : Nat} {n : Nat} {res : dk_S} (X : dk_X p s m args meth c b_Scene_give 5 R_Scene (none) g A) (hR : dk_Rv p l e rm_Scene_give s m args below meth c g A Q 5 b_Scene_give (none) (wC g ad T) res) {k3 : Int32 → Int32 → Int32 → Int32 → dk_S → Option dk_S} (hk3 : ∀ (x1 : Int32) (x2 : Int32) (x3 : Int32) (x4 : Int32)  (S : dk_S), k3 x1 x2 x3 x4 S = some res → dk_J p l e rm_Scene_give s m args below meth c g A Q 5 0 0 3 [(0, .ref (ad 18)), (1, .int x1), (2, .int x2), (3, .int x3), (4, .int x4)] [] (wC g ad T S)) {x1 : Int32} {x2 : Int32} {x3 : Int32} {x4 : Int32} {S : dk_S}  (hF : B_Scene_give_3b n T k3 x1 x2 x3 x4 S = some res) : dk_J p l e rm_Scene_give s m args below meth c g A Q 5 0 0 3 [(0, .ref (ad 18)), (1, .int x1), (2, .int x2), (3, .int x3), (4, .int x4)] [] (wC g ad T S) := by
  unfold B_Scene_give_3b at hF
  refine dk_iload (i := 4) X 4 rfl d_Scene_give_3 ?_
  refine dk_aload_n (k := 0) (i := 0) X 0 rfl rfl d_Scene_give_5 ?_
  refine dk_get X q_Scene 18 11 (by decide) (oC_Scene g ad T S) rfl f_Scene_58 d_Scene_give_6 ?_
  refine dk_icmp_ge (tgt := 47) X (by decide) d_Scene_give_9 hF (fun hF => ?_) (fun hF => ?_)
  · exact dk_retv hR hF d_Scene_give_47
  · refine dk_aload_n (k := 0) (i := 0) X 0 rfl rfl d_Scene_give_12 ?_
    refine dk_iload (i := 4) X 4 rfl d_Scene_give_13 ?_
    refine dk_iload_n (k := 1) (i := 1) X 1 rfl rfl d_Scene_give_15 ?_
    refine dk_callVi X v_Scene_isHoldOf [.int x4, .int x1] (c_Scene_isHoldOf l g ad T n x4 x1 S) 18 (oC_Scene g ad T S) rfl rfl m_Scene_146 rfl rfl ⟨rfl, rfl, Nat.le_of_ble_eq_true rfl, Nat.le_of_ble_eq_true rfl, Nat.le_refl _, Nat.le_refl _⟩ (Nat.le_of_ble_eq_true rfl) d_Scene_give_16 hF (fun r2 S1 hF => ?_)
    refine dk_if_eq (tgt := 41) X (by decide) d_Scene_give_19 hF (fun hF => ?_) (fun hF => ?_)
    · exact (kb_Scene_give_41 (n := n) X hR hk3  hF)
    · refine dk_aload_n (k := 0) (i := 0) X 0 rfl rfl d_Scene_give_22 ?_
      refine dk_get X q_Scene 18 4 (by decide) (oC_Scene g ad T S1) rfl f_Scene_15 d_Scene_give_23 ?_
      refine dk_iload (i := 4) X 4 rfl d_Scene_give_26 ?_
      refine dk_iald X 20 (aC_20 g ad T S1) d_Scene_give_28 hF (fun v3 hF => ?_)
      refine dk_iload_n (k := 2) (i := 2) X 2 rfl rfl d_Scene_give_29 ?_
      refine dk_icmp_ne (tgt := 41) X (by decide) d_Scene_give_30 hF (fun hF => ?_) (fun hF => ?_)
      · exact (kb_Scene_give_41 (n := n) X hR hk3  hF)
      · refine dk_aload_n (k := 0) (i := 0) X 0 rfl rfl d_Scene_give_33 ?_
        refine dk_get X q_Scene 18 4 (by decide) (oC_Scene g ad T S1) rfl f_Scene_15 d_Scene_give_34 ?_
        refine dk_iload (i := 4) X 4 rfl d_Scene_give_37 ?_
        refine dk_iload_n (k := 3) (i := 3) X 3 rfl rfl d_Scene_give_39 ?_
        refine dk_iast X 20 (aC_20 g ad T S1) (sC_20 g ad T S1 _ _) d_Scene_give_40 hF (fun S4 hF => ?_)
        exact (kb_Scene_give_41 (n := n) X hR hk3  hF)
def B_Scene_give_3 (n T : Nat)  : Nat → Int32 → Int32 → Int32 → Int32 → dk_S → Option dk_S
  | 0 => fun _ _ _ _ _ => none
  | q + 1 => fun x1 x2 x3 x4 S => B_Scene_give_3b n T (fun x1 x2 x3 x4 S => B_Scene_give_3 n T  q x1 x2 x3 x4 S) x1 x2 x3 x4 S
theorem kb_Scene_give_3 {p : Program} {l : Launch} {e : Env} {s : State} {m : MethodId} {args : Array Value} {below : List Frame} {meth : Method} {c : Code} {g : dk_G} {A : Nat → Prop} {Q : State → Prop} {ad : Nat → Nat} {T : Nat} {n : Nat} {res : dk_S} (X : dk_X p s m args meth c b_Scene_give 5 R_Scene (none) g A) (hR : dk_Rv p l e rm_Scene_give s m args below meth c g A Q 5 b_Scene_give (none) (wC g ad T) res)  : ∀ (q : Nat) (x1 : Int32) (x2 : Int32) (x3 : Int32) (x4 : Int32)  (S : dk_S), B_Scene_give_3 n T  q x1 x2 x3 x4 S = some res → dk_J p l e rm_Scene_give s m args below meth c g A Q 5 0 0 3 [(0, .ref (ad 18)), (1, .int x1), (2, .int x2), (3, .int x3), (4, .int x4)] [] (wC g ad T S) := by
  intro q
  induction q with
  | zero => intro x1 x2 x3 x4  S hF; cases hF
  | succ q ih => intro x1 x2 x3 x4  S hF; exact kb_Scene_give_3b (n := n) X hR ih  hF
def B_Scene_give_0 (n T : Nat)  (x1 : Int32) (x2 : Int32) (x3 : Int32) (S : dk_S) : Option dk_S :=
  B_Scene_give_3 n T  n x1 x2 x3 (0 : Int32) S
set_option maxRecDepth 20000 in
theorem kb_Scene_give_0 {p : Program} {l : Launch} {e : Env} {s : State} {m : MethodId} {args : Array Value} {below : List Frame} {meth : Method} {c : Code} {g : dk_G} {A : Nat → Prop} {Q : State → Prop} {ad : Nat → Nat} {T : Nat} {n : Nat} {res : dk_S} (X : dk_X p s m args meth c b_Scene_give 5 R_Scene (none) g A) (hR : dk_Rv p l e rm_Scene_give s m args below meth c g A Q 5 b_Scene_give (none) (wC g ad T) res)  {x1 : Int32} {x2 : Int32} {x3 : Int32} {S : dk_S}  (hF : B_Scene_give_0 n T  x1 x2 x3 S = some res) : dk_J p l e rm_Scene_give s m args below meth c g A Q 5 0 0 0 [(0, .ref (ad 18)), (1, .int x1), (2, .int x2), (3, .int x3)] [] (wC g ad T S) := by
  unfold B_Scene_give_0 at hF
  refine dk_iconst (v := 0) X (by decide) d_Scene_give_0 ?_
  refine dk_istore (i := 4) (lv' := [(4, .int (0 : Int32)), (0, .ref (ad 18)), (1, .int x1), (2, .int x2), (3, .int x3)]) X (by decide) rfl d_Scene_give_1 ?_
  exact dk_sub [1, 2, 3, 4, 0] rfl (kb_Scene_give_3 (n := n) X hR  n x1 x2 x3 (0 : Int32) S hF)
def F_Scene_give (n T : Nat) (x1 : Int32) (x2 : Int32) (x3 : Int32) (S : dk_S) : Option dk_S := B_Scene_give_0 n T x1 x2 x3 S
theorem c_Scene_give (l : Launch) (g : dk_G) (ad : Nat → Nat) (T n : Nat) (x1 : Int32) (x2 : Int32) (x3 : Int32)  (S : dk_S) : dk_Mv l g y_Scene_give b_Scene_give 5 rm_Scene_give (none) [.ref (ad 18), .int x1, .int x2, .int x3] (wC g ad T) S (F_Scene_give n T x1 x2 x3 S) := dk_enterv (by decide) rfl (Nat.le_of_ble_eq_true rfl) (fun p e s m args below meth c A Q res hF X hR => (kb_Scene_give_0 (n := n) X hR  hF))
abbrev b_Scene_yields : ByteArray := prog_7_method_16_code
def y_Scene_yields : MethodName := ⟨R_Scene, "yields", "(I)Z"⟩
theorem d_Scene_yields_0 : decode b_Scene_yields 0 = .ok (.aload_n 0, 1) := by decide +kernel
theorem d_Scene_yields_1 : decode b_Scene_yields 1 = .ok (.getfield 9, 3) := by decide +kernel
theorem d_Scene_yields_4 : decode b_Scene_yields 4 = .ok (.iload_n 1, 1) := by decide +kernel
theorem d_Scene_yields_5 : decode b_Scene_yields 5 = .ok (.iaload, 1) := by decide +kernel
theorem d_Scene_yields_6 : decode b_Scene_yields 6 = .ok (.ifCond .eq 23, 3) := by decide +kernel
theorem d_Scene_yields_9 : decode b_Scene_yields 9 = .ok (.aload_n 0, 1) := by decide +kernel
theorem d_Scene_yields_10 : decode b_Scene_yields 10 = .ok (.getfield 9, 3) := by decide +kernel
theorem d_Scene_yields_13 : decode b_Scene_yields 13 = .ok (.iload_n 1, 1) := by decide +kernel
theorem d_Scene_yields_14 : decode b_Scene_yields 14 = .ok (.iaload, 1) := by decide +kernel
theorem d_Scene_yields_15 : decode b_Scene_yields 15 = .ok (.iconst 1, 1) := by decide +kernel
theorem d_Scene_yields_16 : decode b_Scene_yields 16 = .ok (.if_icmp .eq 13, 3) := by decide +kernel
theorem d_Scene_yields_19 : decode b_Scene_yields 19 = .ok (.aload_n 0, 1) := by decide +kernel
theorem d_Scene_yields_20 : decode b_Scene_yields 20 = .ok (.getfield 9, 3) := by decide +kernel
theorem d_Scene_yields_23 : decode b_Scene_yields 23 = .ok (.iload_n 1, 1) := by decide +kernel
theorem d_Scene_yields_24 : decode b_Scene_yields 24 = .ok (.iaload, 1) := by decide +kernel
theorem d_Scene_yields_25 : decode b_Scene_yields 25 = .ok (.iconst 2, 1) := by decide +kernel
theorem d_Scene_yields_26 : decode b_Scene_yields 26 = .ok (.if_icmp .ne 7, 3) := by decide +kernel
theorem d_Scene_yields_29 : decode b_Scene_yields 29 = .ok (.iconst 1, 1) := by decide +kernel
theorem d_Scene_yields_30 : decode b_Scene_yields 30 = .ok (.goto 4, 3) := by decide +kernel
theorem d_Scene_yields_33 : decode b_Scene_yields 33 = .ok (.iconst 0, 1) := by decide +kernel
theorem d_Scene_yields_34 : decode b_Scene_yields 34 = .ok (.ireturn, 1) := by decide +kernel
theorem v_Scene_yields : dk_Yv y_Scene_yields b_Scene_yields 2 (some .boolean) 1 := ⟨dk_in (List.mem_of_getElem? (i := 725) (by decide +kernel)) rfl, dk_in (List.mem_of_getElem? (i := 23) (by decide +kernel)) rfl, dk_in (List.mem_of_getElem? (i := 72) (by decide +kernel)) rfl, dk_in (List.mem_of_getElem? (i := 726) (by decide +kernel)) rfl, by decide +kernel, by decide +kernel, by decide +kernel⟩
abbrev rm_Scene_yields : Room := { frames := 0, cells := 0, slots := 0, locals := 0 }
def B_Scene_yields_0 (n T : Nat)  (x1 : Int32) (S : dk_S) : Option (Int32 × dk_S) :=
  dk_r 44 (S 19) x1 fun v1 => if v1 = 0 then (dk_b (1 : Int32) (some ((1 : Int32), S))) else (dk_r 44 (S 19) x1 fun v2 => if v2 = (1 : Int32) then (dk_b (1 : Int32) (some ((1 : Int32), S))) else (dk_r 44 (S 19) x1 fun v3 => if ¬ v3 = (2 : Int32) then (dk_b (0 : Int32) (some ((0 : Int32), S))) else (dk_b (1 : Int32) (some ((1 : Int32), S)))))
set_option maxRecDepth 20000 in
theorem kb_Scene_yields_0 {p : Program} {l : Launch} {e : Env} {s : State} {m : MethodId} {args : Array Value} {below : List Frame} {meth : Method} {c : Code} {g : dk_G} {A : Nat → Prop} {Q : State → Prop} {ad : Nat → Nat} {T : Nat} {n : Nat} {res : (Int32 × dk_S)} (X : dk_X p s m args meth c b_Scene_yields 2 R_Scene (some .boolean) g A) (hR : dk_Ri p l e rm_Scene_yields s m args below meth c g A Q 2 b_Scene_yields (some .boolean) (wC g ad T) res)  {x1 : Int32} {S : dk_S}  (hF : B_Scene_yields_0 n T  x1 S = some res) : dk_J p l e rm_Scene_yields s m args below meth c g A Q 2 0 0 0 [(0, .ref (ad 18)), (1, .int x1)] [] (wC g ad T S) := by
  unfold B_Scene_yields_0 at hF
  refine dk_aload_n (k := 0) (i := 0) X 0 rfl rfl d_Scene_yields_0 ?_
  refine dk_get X q_Scene 18 3 (by decide) (oC_Scene g ad T S) rfl f_Scene_9 d_Scene_yields_1 ?_
  refine dk_iload_n (k := 1) (i := 1) X 1 rfl rfl d_Scene_yields_4 ?_
  refine dk_iald X 19 (aC_19 g ad T S) d_Scene_yields_5 hF (fun v1 hF => ?_)
  refine dk_if_eq (tgt := 29) X (by decide) d_Scene_yields_6 hF (fun hF => ?_) (fun hF => ?_)
  · refine dk_iconst (v := 1) X (by decide) d_Scene_yields_29 ?_
    refine dk_goto (tgt := 34) X (by decide) d_Scene_yields_30 ?_
    exact dk_retz hR hF d_Scene_yields_34
  · refine dk_aload_n (k := 0) (i := 0) X 0 rfl rfl d_Scene_yields_9 ?_
    refine dk_get X q_Scene 18 3 (by decide) (oC_Scene g ad T S) rfl f_Scene_9 d_Scene_yields_10 ?_
    refine dk_iload_n (k := 1) (i := 1) X 1 rfl rfl d_Scene_yields_13 ?_
    refine dk_iald X 19 (aC_19 g ad T S) d_Scene_yields_14 hF (fun v2 hF => ?_)
    refine dk_iconst (v := 1) X (by decide) d_Scene_yields_15 ?_
    refine dk_icmp_eq (tgt := 29) X (by decide) d_Scene_yields_16 hF (fun hF => ?_) (fun hF => ?_)
    · refine dk_iconst (v := 1) X (by decide) d_Scene_yields_29 ?_
      refine dk_goto (tgt := 34) X (by decide) d_Scene_yields_30 ?_
      exact dk_retz hR hF d_Scene_yields_34
    · refine dk_aload_n (k := 0) (i := 0) X 0 rfl rfl d_Scene_yields_19 ?_
      refine dk_get X q_Scene 18 3 (by decide) (oC_Scene g ad T S) rfl f_Scene_9 d_Scene_yields_20 ?_
      refine dk_iload_n (k := 1) (i := 1) X 1 rfl rfl d_Scene_yields_23 ?_
      refine dk_iald X 19 (aC_19 g ad T S) d_Scene_yields_24 hF (fun v3 hF => ?_)
      refine dk_iconst (v := 2) X (by decide) d_Scene_yields_25 ?_
      refine dk_icmp_ne (tgt := 33) X (by decide) d_Scene_yields_26 hF (fun hF => ?_) (fun hF => ?_)
      · refine dk_iconst (v := 0) X (by decide) d_Scene_yields_33 ?_
        exact dk_retz hR hF d_Scene_yields_34
      · refine dk_iconst (v := 1) X (by decide) d_Scene_yields_29 ?_
        refine dk_goto (tgt := 34) X (by decide) d_Scene_yields_30 ?_
        exact dk_retz hR hF d_Scene_yields_34
def F_Scene_yields (n T : Nat) (x1 : Int32) (S : dk_S) : Option (Int32 × dk_S) := B_Scene_yields_0 n T x1 S
theorem c_Scene_yields (l : Launch) (g : dk_G) (ad : Nat → Nat) (T n : Nat) (x1 : Int32)  (S : dk_S) : dk_Mi l g y_Scene_yields b_Scene_yields 2 rm_Scene_yields (some .boolean) [.ref (ad 18), .int x1] (wC g ad T) S (F_Scene_yields n T x1 S) := dk_enteri (by decide) (Nat.le_of_ble_eq_true rfl) (fun p e s m args below meth c A Q res hF X hR => (kb_Scene_yields_0 (n := n) X hR  hF))
abbrev b_Scene_kill : ByteArray := prog_7_method_12_code
def y_Scene_kill : MethodName := ⟨R_Scene, "kill", "(II)V"⟩
theorem d_Scene_kill_0 : decode b_Scene_kill 0 = .ok (.iconst 0, 1) := by decide +kernel
theorem d_Scene_kill_1 : decode b_Scene_kill 1 = .ok (.istore_n 3, 1) := by decide +kernel
theorem d_Scene_kill_2 : decode b_Scene_kill 2 = .ok (.iload_n 3, 1) := by decide +kernel
theorem d_Scene_kill_3 : decode b_Scene_kill 3 = .ok (.aload_n 0, 1) := by decide +kernel
theorem d_Scene_kill_4 : decode b_Scene_kill 4 = .ok (.getfield 58, 3) := by decide +kernel
theorem d_Scene_kill_7 : decode b_Scene_kill 7 = .ok (.if_icmp .ge 44, 3) := by decide +kernel
theorem d_Scene_kill_10 : decode b_Scene_kill 10 = .ok (.aload_n 0, 1) := by decide +kernel
theorem d_Scene_kill_11 : decode b_Scene_kill 11 = .ok (.getfield 18, 3) := by decide +kernel
theorem d_Scene_kill_14 : decode b_Scene_kill 14 = .ok (.iload_n 3, 1) := by decide +kernel
theorem d_Scene_kill_15 : decode b_Scene_kill 15 = .ok (.iaload, 1) := by decide +kernel
theorem d_Scene_kill_16 : decode b_Scene_kill 16 = .ok (.iload_n 1, 1) := by decide +kernel
theorem d_Scene_kill_17 : decode b_Scene_kill 17 = .ok (.if_icmp .ne 28, 3) := by decide +kernel
theorem d_Scene_kill_20 : decode b_Scene_kill 20 = .ok (.aload_n 0, 1) := by decide +kernel
theorem d_Scene_kill_21 : decode b_Scene_kill 21 = .ok (.getfield 15, 3) := by decide +kernel
theorem d_Scene_kill_24 : decode b_Scene_kill 24 = .ok (.iload_n 3, 1) := by decide +kernel
theorem d_Scene_kill_25 : decode b_Scene_kill 25 = .ok (.iaload, 1) := by decide +kernel
theorem d_Scene_kill_26 : decode b_Scene_kill 26 = .ok (.iload_n 2, 1) := by decide +kernel
theorem d_Scene_kill_27 : decode b_Scene_kill 27 = .ok (.if_icmp .eq 18, 3) := by decide +kernel
theorem d_Scene_kill_30 : decode b_Scene_kill 30 = .ok (.aload_n 0, 1) := by decide +kernel
theorem d_Scene_kill_31 : decode b_Scene_kill 31 = .ok (.iload_n 3, 1) := by decide +kernel
theorem d_Scene_kill_32 : decode b_Scene_kill 32 = .ok (.invokevirtual 143, 3) := by decide +kernel
theorem d_Scene_kill_35 : decode b_Scene_kill 35 = .ok (.ifCond .eq 10, 3) := by decide +kernel
theorem d_Scene_kill_38 : decode b_Scene_kill 38 = .ok (.aload_n 0, 1) := by decide +kernel
theorem d_Scene_kill_39 : decode b_Scene_kill 39 = .ok (.getfield 33, 3) := by decide +kernel
theorem d_Scene_kill_42 : decode b_Scene_kill 42 = .ok (.iload_n 3, 1) := by decide +kernel
theorem d_Scene_kill_43 : decode b_Scene_kill 43 = .ok (.iconst 1, 1) := by decide +kernel
theorem d_Scene_kill_44 : decode b_Scene_kill 44 = .ok (.bastore, 1) := by decide +kernel
theorem d_Scene_kill_45 : decode b_Scene_kill 45 = .ok (.iinc 3 1, 3) := by decide +kernel
theorem d_Scene_kill_48 : decode b_Scene_kill 48 = .ok (.goto (-46), 3) := by decide +kernel
theorem d_Scene_kill_51 : decode b_Scene_kill 51 = .ok (.aload_n 0, 1) := by decide +kernel
theorem d_Scene_kill_52 : decode b_Scene_kill 52 = .ok (.getfield 43, 3) := by decide +kernel
theorem d_Scene_kill_55 : decode b_Scene_kill 55 = .ok (.iload_n 1, 1) := by decide +kernel
theorem d_Scene_kill_56 : decode b_Scene_kill 56 = .ok (.iconst 1, 1) := by decide +kernel
theorem d_Scene_kill_57 : decode b_Scene_kill 57 = .ok (.bastore, 1) := by decide +kernel
theorem d_Scene_kill_58 : decode b_Scene_kill 58 = .ok (.return_, 1) := by decide +kernel
theorem v_Scene_kill : dk_Yv y_Scene_kill b_Scene_kill 4 (none) 2 := ⟨dk_in (List.mem_of_getElem? (i := 721) (by decide +kernel)) rfl, dk_in (List.mem_of_getElem? (i := 22) (by decide +kernel)) rfl, dk_in (List.mem_of_getElem? (i := 72) (by decide +kernel)) rfl, dk_in (List.mem_of_getElem? (i := 722) (by decide +kernel)) rfl, by decide +kernel, by decide +kernel, by decide +kernel⟩
abbrev rm_Scene_kill : Room := { frames := 1, cells := 0, slots := 0, locals := 21 }
theorem m_Scene_143 : Cond.methodLink R_Scene 143 y_Scene_yields ∈ dk_tb := dk_in (List.mem_of_getElem? (i := 723) (by decide +kernel)) rfl
def B_Scene_kill_45 (n T : Nat) (k2 : Int32 → Int32 → Int32 → dk_S → Option dk_S) (x1 : Int32) (x2 : Int32) (x3 : Int32) (S : dk_S) : Option dk_S :=
  k2 x1 x2 (x3 + (1 : Int32)) S
set_option maxRecDepth 20000 in
theorem kb_Scene_kill_45 {p : Program} {l : Launch} {e : Env} {s : State} {m : MethodId} {args : Array Value} {below : List Frame} {meth : Method} {c : Code} {g : dk_G} {A : Nat → Prop} {Q : State → Prop} {ad : Nat → Nat} {T : Nat} {n : Nat} {res : dk_S} (X : dk_X p s m args meth c b_Scene_kill 4 R_Scene (none) g A) (hR : dk_Rv p l e rm_Scene_kill s m args below meth c g A Q 4 b_Scene_kill (none) (wC g ad T) res) {k2 : Int32 → Int32 → Int32 → dk_S → Option dk_S} (hk2 : ∀ (x1 : Int32) (x2 : Int32) (x3 : Int32)  (S : dk_S), k2 x1 x2 x3 S = some res → dk_J p l e rm_Scene_kill s m args below meth c g A Q 4 0 0 2 [(0, .ref (ad 18)), (1, .int x1), (2, .int x2), (3, .int x3)] [] (wC g ad T S)) {x1 : Int32} {x2 : Int32} {x3 : Int32} {S : dk_S}  (hF : B_Scene_kill_45 n T k2 x1 x2 x3 S = some res) : dk_J p l e rm_Scene_kill s m args below meth c g A Q 4 0 0 45 [(0, .ref (ad 18)), (1, .int x1), (2, .int x2), (3, .int x3)] [] (wC g ad T S) := by
  unfold B_Scene_kill_45 at hF
  refine dk_iinc (i := 3) (v := (x3 + (1 : Int32))) (lv' := [(3, .int (x3 + (1 : Int32))), (0, .ref (ad 18)), (1, .int x1), (2, .int x2)]) X 3 rfl (dk_ii _ (by decide)) (by decide) rfl d_Scene_kill_45 ?_
  refine dk_goto (tgt := 2) X (by decide) d_Scene_kill_48 ?_
  exact dk_sub [1, 2, 3, 0] rfl (hk2 x1 x2 (x3 + (1 : Int32)) S hF)
def B_Scene_kill_2b (n T : Nat) (k2 : Int32 → Int32 → Int32 → dk_S → Option dk_S) (x1 : Int32) (x2 : Int32) (x3 : Int32) (S : dk_S) : Option dk_S :=
  if (S 115 0) ≤ x3 then (dk_w S 29 6 x1 (vp_nar .boolean (1 : Int32)) fun S1 => some S1) else (dk_r 44 (S 21) x3 fun v2 => if ¬ v2 = x1 then (B_Scene_kill_45 n T k2 x1 x2 x3 S) else (dk_r 44 (S 20) x3 fun v3 => if v3 = x2 then (B_Scene_kill_45 n T k2 x1 x2 x3 S) else (dk_c (F_Scene_yields n T x3 S) fun r5 S4 => if r5 = 0 then (B_Scene_kill_45 n T k2 x1 x2 x3 S4) else (dk_w S4 26 44 x3 (vp_nar .boolean (1 : Int32)) fun S6 => B_Scene_kill_45 n T k2 x1 x2 x3 S6))))
set_option maxRecDepth 20000 in
theorem kb_Scene_kill_2b {p : Program} {l : Launch} {e : Env} {s : State} {m : MethodId} {args : Array Value} {below : List Frame} {meth : Method} {c : Code} {g : dk_G} {A : Nat → Prop} {Q : State → Prop} {ad : Nat → Nat} {T : Nat} {n : Nat} {res : dk_S} (X : dk_X p s m args meth c b_Scene_kill 4 R_Scene (none) g A) (hR : dk_Rv p l e rm_Scene_kill s m args below meth c g A Q 4 b_Scene_kill (none) (wC g ad T) res) {k2 : Int32 → Int32 → Int32 → dk_S → Option dk_S} (hk2 : ∀ (x1 : Int32) (x2 : Int32) (x3 : Int32)  (S : dk_S), k2 x1 x2 x3 S = some res → dk_J p l e rm_Scene_kill s m args below meth c g A Q 4 0 0 2 [(0, .ref (ad 18)), (1, .int x1), (2, .int x2), (3, .int x3)] [] (wC g ad T S)) {x1 : Int32} {x2 : Int32} {x3 : Int32} {S : dk_S}  (hF : B_Scene_kill_2b n T k2 x1 x2 x3 S = some res) : dk_J p l e rm_Scene_kill s m args below meth c g A Q 4 0 0 2 [(0, .ref (ad 18)), (1, .int x1), (2, .int x2), (3, .int x3)] [] (wC g ad T S) := by
  unfold B_Scene_kill_2b at hF
  refine dk_iload_n (k := 3) (i := 3) X 3 rfl rfl d_Scene_kill_2 ?_
  refine dk_aload_n (k := 0) (i := 0) X 0 rfl rfl d_Scene_kill_3 ?_
  refine dk_get X q_Scene 18 11 (by decide) (oC_Scene g ad T S) rfl f_Scene_58 d_Scene_kill_4 ?_
  refine dk_icmp_ge (tgt := 51) X (by decide) d_Scene_kill_7 hF (fun hF => ?_) (fun hF => ?_)
  · refine dk_aload_n (k := 0) (i := 0) X 0 rfl rfl d_Scene_kill_51 ?_
    refine dk_get X q_Scene 18 15 (by decide) (oC_Scene g ad T S) rfl f_Scene_43 d_Scene_kill_52 ?_
    refine dk_iload_n (k := 1) (i := 1) X 1 rfl rfl d_Scene_kill_55 ?_
    refine dk_iconst (v := 1) X (by decide) d_Scene_kill_56 ?_
    refine dk_zast X 29 (aC_29 g ad T S) (sC_29 g ad T S _ _) d_Scene_kill_57 hF (fun S1 hF => ?_)
    exact dk_retv hR hF d_Scene_kill_58
  · refine dk_aload_n (k := 0) (i := 0) X 0 rfl rfl d_Scene_kill_10 ?_
    refine dk_get X q_Scene 18 5 (by decide) (oC_Scene g ad T S) rfl f_Scene_18 d_Scene_kill_11 ?_
    refine dk_iload_n (k := 3) (i := 3) X 3 rfl rfl d_Scene_kill_14 ?_
    refine dk_iald X 21 (aC_21 g ad T S) d_Scene_kill_15 hF (fun v2 hF => ?_)
    refine dk_iload_n (k := 1) (i := 1) X 1 rfl rfl d_Scene_kill_16 ?_
    refine dk_icmp_ne (tgt := 45) X (by decide) d_Scene_kill_17 hF (fun hF => ?_) (fun hF => ?_)
    · exact (kb_Scene_kill_45 (n := n) X hR hk2  hF)
    · refine dk_aload_n (k := 0) (i := 0) X 0 rfl rfl d_Scene_kill_20 ?_
      refine dk_get X q_Scene 18 4 (by decide) (oC_Scene g ad T S) rfl f_Scene_15 d_Scene_kill_21 ?_
      refine dk_iload_n (k := 3) (i := 3) X 3 rfl rfl d_Scene_kill_24 ?_
      refine dk_iald X 20 (aC_20 g ad T S) d_Scene_kill_25 hF (fun v3 hF => ?_)
      refine dk_iload_n (k := 2) (i := 2) X 2 rfl rfl d_Scene_kill_26 ?_
      refine dk_icmp_eq (tgt := 45) X (by decide) d_Scene_kill_27 hF (fun hF => ?_) (fun hF => ?_)
      · exact (kb_Scene_kill_45 (n := n) X hR hk2  hF)
      · refine dk_aload_n (k := 0) (i := 0) X 0 rfl rfl d_Scene_kill_30 ?_
        refine dk_iload_n (k := 3) (i := 3) X 3 rfl rfl d_Scene_kill_31 ?_
        refine dk_callVi X v_Scene_yields [.int x3] (c_Scene_yields l g ad T n x3 S) 18 (oC_Scene g ad T S) rfl rfl m_Scene_143 rfl rfl ⟨rfl, rfl, Nat.le_of_ble_eq_true rfl, Nat.le_of_ble_eq_true rfl, Nat.le_refl _, Nat.le_refl _⟩ (Nat.le_of_ble_eq_true rfl) d_Scene_kill_32 hF (fun r5 S4 hF => ?_)
        refine dk_if_eq (tgt := 45) X (by decide) d_Scene_kill_35 hF (fun hF => ?_) (fun hF => ?_)
        · exact (kb_Scene_kill_45 (n := n) X hR hk2  hF)
        · refine dk_aload_n (k := 0) (i := 0) X 0 rfl rfl d_Scene_kill_38 ?_
          refine dk_get X q_Scene 18 10 (by decide) (oC_Scene g ad T S4) rfl f_Scene_33 d_Scene_kill_39 ?_
          refine dk_iload_n (k := 3) (i := 3) X 3 rfl rfl d_Scene_kill_42 ?_
          refine dk_iconst (v := 1) X (by decide) d_Scene_kill_43 ?_
          refine dk_zast X 26 (aC_26 g ad T S4) (sC_26 g ad T S4 _ _) d_Scene_kill_44 hF (fun S6 hF => ?_)
          exact (kb_Scene_kill_45 (n := n) X hR hk2  hF)
def B_Scene_kill_2 (n T : Nat)  : Nat → Int32 → Int32 → Int32 → dk_S → Option dk_S
  | 0 => fun _ _ _ _ => none
  | q + 1 => fun x1 x2 x3 S => B_Scene_kill_2b n T (fun x1 x2 x3 S => B_Scene_kill_2 n T  q x1 x2 x3 S) x1 x2 x3 S
theorem kb_Scene_kill_2 {p : Program} {l : Launch} {e : Env} {s : State} {m : MethodId} {args : Array Value} {below : List Frame} {meth : Method} {c : Code} {g : dk_G} {A : Nat → Prop} {Q : State → Prop} {ad : Nat → Nat} {T : Nat} {n : Nat} {res : dk_S} (X : dk_X p s m args meth c b_Scene_kill 4 R_Scene (none) g A) (hR : dk_Rv p l e rm_Scene_kill s m args below meth c g A Q 4 b_Scene_kill (none) (wC g ad T) res)  : ∀ (q : Nat) (x1 : Int32) (x2 : Int32) (x3 : Int32)  (S : dk_S), B_Scene_kill_2 n T  q x1 x2 x3 S = some res → dk_J p l e rm_Scene_kill s m args below meth c g A Q 4 0 0 2 [(0, .ref (ad 18)), (1, .int x1), (2, .int x2), (3, .int x3)] [] (wC g ad T S) := by
  intro q
  induction q with
  | zero => intro x1 x2 x3  S hF; cases hF
  | succ q ih => intro x1 x2 x3  S hF; exact kb_Scene_kill_2b (n := n) X hR ih  hF
def B_Scene_kill_0 (n T : Nat)  (x1 : Int32) (x2 : Int32) (S : dk_S) : Option dk_S :=
  B_Scene_kill_2 n T  n x1 x2 (0 : Int32) S
set_option maxRecDepth 20000 in
theorem kb_Scene_kill_0 {p : Program} {l : Launch} {e : Env} {s : State} {m : MethodId} {args : Array Value} {below : List Frame} {meth : Method} {c : Code} {g : dk_G} {A : Nat → Prop} {Q : State → Prop} {ad : Nat → Nat} {T : Nat} {n : Nat} {res : dk_S} (X : dk_X p s m args meth c b_Scene_kill 4 R_Scene (none) g A) (hR : dk_Rv p l e rm_Scene_kill s m args below meth c g A Q 4 b_Scene_kill (none) (wC g ad T) res)  {x1 : Int32} {x2 : Int32} {S : dk_S}  (hF : B_Scene_kill_0 n T  x1 x2 S = some res) : dk_J p l e rm_Scene_kill s m args below meth c g A Q 4 0 0 0 [(0, .ref (ad 18)), (1, .int x1), (2, .int x2)] [] (wC g ad T S) := by
  unfold B_Scene_kill_0 at hF
  refine dk_iconst (v := 0) X (by decide) d_Scene_kill_0 ?_
  refine dk_istore_n (k := 3) (i := 3) (lv' := [(3, .int (0 : Int32)), (0, .ref (ad 18)), (1, .int x1), (2, .int x2)]) X rfl (by decide) rfl d_Scene_kill_1 ?_
  exact dk_sub [1, 2, 3, 0] rfl (kb_Scene_kill_2 (n := n) X hR  n x1 x2 (0 : Int32) S hF)
def F_Scene_kill (n T : Nat) (x1 : Int32) (x2 : Int32) (S : dk_S) : Option dk_S := B_Scene_kill_0 n T x1 x2 S
theorem c_Scene_kill (l : Launch) (g : dk_G) (ad : Nat → Nat) (T n : Nat) (x1 : Int32) (x2 : Int32)  (S : dk_S) : dk_Mv l g y_Scene_kill b_Scene_kill 4 rm_Scene_kill (none) [.ref (ad 18), .int x1, .int x2] (wC g ad T) S (F_Scene_kill n T x1 x2 S) := dk_enterv (by decide) rfl (Nat.le_of_ble_eq_true rfl) (fun p e s m args below meth c A Q res hF X hR => (kb_Scene_kill_0 (n := n) X hR  hF))
abbrev b_Scene_letGo : ByteArray := prog_7_method_13_code
def y_Scene_letGo : MethodName := ⟨R_Scene, "letGo", "(II)V"⟩
theorem d_Scene_letGo_0 : decode b_Scene_letGo 0 = .ok (.iconst 0, 1) := by decide +kernel
theorem d_Scene_letGo_1 : decode b_Scene_letGo 1 = .ok (.istore_n 3, 1) := by decide +kernel
theorem d_Scene_letGo_2 : decode b_Scene_letGo 2 = .ok (.iload_n 3, 1) := by decide +kernel
theorem d_Scene_letGo_3 : decode b_Scene_letGo 3 = .ok (.aload_n 0, 1) := by decide +kernel
theorem d_Scene_letGo_4 : decode b_Scene_letGo 4 = .ok (.getfield 58, 3) := by decide +kernel
theorem d_Scene_letGo_7 : decode b_Scene_letGo 7 = .ok (.if_icmp .ge 35, 3) := by decide +kernel
theorem d_Scene_letGo_10 : decode b_Scene_letGo 10 = .ok (.aload_n 0, 1) := by decide +kernel
theorem d_Scene_letGo_11 : decode b_Scene_letGo 11 = .ok (.iload_n 3, 1) := by decide +kernel
theorem d_Scene_letGo_12 : decode b_Scene_letGo 12 = .ok (.iload_n 1, 1) := by decide +kernel
theorem d_Scene_letGo_13 : decode b_Scene_letGo 13 = .ok (.invokevirtual 146, 3) := by decide +kernel
theorem d_Scene_letGo_16 : decode b_Scene_letGo 16 = .ok (.ifCond .eq 20, 3) := by decide +kernel
theorem d_Scene_letGo_19 : decode b_Scene_letGo 19 = .ok (.aload_n 0, 1) := by decide +kernel
theorem d_Scene_letGo_20 : decode b_Scene_letGo 20 = .ok (.getfield 15, 3) := by decide +kernel
theorem d_Scene_letGo_23 : decode b_Scene_letGo 23 = .ok (.iload_n 3, 1) := by decide +kernel
theorem d_Scene_letGo_24 : decode b_Scene_letGo 24 = .ok (.iaload, 1) := by decide +kernel
theorem d_Scene_letGo_25 : decode b_Scene_letGo 25 = .ok (.iload_n 2, 1) := by decide +kernel
theorem d_Scene_letGo_26 : decode b_Scene_letGo 26 = .ok (.if_icmp .ne 10, 3) := by decide +kernel
theorem d_Scene_letGo_29 : decode b_Scene_letGo 29 = .ok (.aload_n 0, 1) := by decide +kernel
theorem d_Scene_letGo_30 : decode b_Scene_letGo 30 = .ok (.getfield 33, 3) := by decide +kernel
theorem d_Scene_letGo_33 : decode b_Scene_letGo 33 = .ok (.iload_n 3, 1) := by decide +kernel
theorem d_Scene_letGo_34 : decode b_Scene_letGo 34 = .ok (.iconst 1, 1) := by decide +kernel
theorem d_Scene_letGo_35 : decode b_Scene_letGo 35 = .ok (.bastore, 1) := by decide +kernel
theorem d_Scene_letGo_36 : decode b_Scene_letGo 36 = .ok (.iinc 3 1, 3) := by decide +kernel
theorem d_Scene_letGo_39 : decode b_Scene_letGo 39 = .ok (.goto (-37), 3) := by decide +kernel
theorem d_Scene_letGo_42 : decode b_Scene_letGo 42 = .ok (.return_, 1) := by decide +kernel
theorem v_Scene_letGo : dk_Yv y_Scene_letGo b_Scene_letGo 4 (none) 2 := ⟨dk_in (List.mem_of_getElem? (i := 729) (by decide +kernel)) rfl, dk_in (List.mem_of_getElem? (i := 24) (by decide +kernel)) rfl, dk_in (List.mem_of_getElem? (i := 72) (by decide +kernel)) rfl, dk_in (List.mem_of_getElem? (i := 730) (by decide +kernel)) rfl, by decide +kernel, by decide +kernel, by decide +kernel⟩
abbrev rm_Scene_letGo : Room := { frames := 1, cells := 0, slots := 0, locals := 22 }
def B_Scene_letGo_36 (n T : Nat) (k2 : Int32 → Int32 → Int32 → dk_S → Option dk_S) (x1 : Int32) (x2 : Int32) (x3 : Int32) (S : dk_S) : Option dk_S :=
  k2 x1 x2 (x3 + (1 : Int32)) S
set_option maxRecDepth 20000 in
theorem kb_Scene_letGo_36 {p : Program} {l : Launch} {e : Env} {s : State} {m : MethodId} {args : Array Value} {below : List Frame} {meth : Method} {c : Code} {g : dk_G} {A : Nat → Prop} {Q : State → Prop} {ad : Nat → Nat} {T : Nat} {n : Nat} {res : dk_S} (X : dk_X p s m args meth c b_Scene_letGo 4 R_Scene (none) g A) (hR : dk_Rv p l e rm_Scene_letGo s m args below meth c g A Q 4 b_Scene_letGo (none) (wC g ad T) res) {k2 : Int32 → Int32 → Int32 → dk_S → Option dk_S} (hk2 : ∀ (x1 : Int32) (x2 : Int32) (x3 : Int32)  (S : dk_S), k2 x1 x2 x3 S = some res → dk_J p l e rm_Scene_letGo s m args below meth c g A Q 4 0 0 2 [(0, .ref (ad 18)), (1, .int x1), (2, .int x2), (3, .int x3)] [] (wC g ad T S)) {x1 : Int32} {x2 : Int32} {x3 : Int32} {S : dk_S}  (hF : B_Scene_letGo_36 n T k2 x1 x2 x3 S = some res) : dk_J p l e rm_Scene_letGo s m args below meth c g A Q 4 0 0 36 [(0, .ref (ad 18)), (1, .int x1), (2, .int x2), (3, .int x3)] [] (wC g ad T S) := by
  unfold B_Scene_letGo_36 at hF
  refine dk_iinc (i := 3) (v := (x3 + (1 : Int32))) (lv' := [(3, .int (x3 + (1 : Int32))), (0, .ref (ad 18)), (1, .int x1), (2, .int x2)]) X 3 rfl (dk_ii _ (by decide)) (by decide) rfl d_Scene_letGo_36 ?_
  refine dk_goto (tgt := 2) X (by decide) d_Scene_letGo_39 ?_
  exact dk_sub [1, 2, 3, 0] rfl (hk2 x1 x2 (x3 + (1 : Int32)) S hF)
def B_Scene_letGo_2b (n T : Nat) (k2 : Int32 → Int32 → Int32 → dk_S → Option dk_S) (x1 : Int32) (x2 : Int32) (x3 : Int32) (S : dk_S) : Option dk_S :=
  if (S 115 0) ≤ x3 then (some S) else (dk_c (F_Scene_isHoldOf n T x3 x1 S) fun r2 S1 => if r2 = 0 then (B_Scene_letGo_36 n T k2 x1 x2 x3 S1) else (dk_r 44 (S1 20) x3 fun v3 => if ¬ v3 = x2 then (B_Scene_letGo_36 n T k2 x1 x2 x3 S1) else (dk_w S1 26 44 x3 (vp_nar .boolean (1 : Int32)) fun S4 => B_Scene_letGo_36 n T k2 x1 x2 x3 S4)))
set_option maxRecDepth 20000 in
theorem kb_Scene_letGo_2b {p : Program} {l : Launch} {e : Env} {s : State} {m : MethodId} {args : Array Value} {below : List Frame} {meth : Method} {c : Code} {g : dk_G} {A : Nat → Prop} {Q : State → Prop} {ad : Nat → Nat} {T : Nat} {n : Nat} {res : dk_S} (X : dk_X p s m args meth c b_Scene_letGo 4 R_Scene (none) g A) (hR : dk_Rv p l e rm_Scene_letGo s m args below meth c g A Q 4 b_Scene_letGo (none) (wC g ad T) res) {k2 : Int32 → Int32 → Int32 → dk_S → Option dk_S} (hk2 : ∀ (x1 : Int32) (x2 : Int32) (x3 : Int32)  (S : dk_S), k2 x1 x2 x3 S = some res → dk_J p l e rm_Scene_letGo s m args below meth c g A Q 4 0 0 2 [(0, .ref (ad 18)), (1, .int x1), (2, .int x2), (3, .int x3)] [] (wC g ad T S)) {x1 : Int32} {x2 : Int32} {x3 : Int32} {S : dk_S}  (hF : B_Scene_letGo_2b n T k2 x1 x2 x3 S = some res) : dk_J p l e rm_Scene_letGo s m args below meth c g A Q 4 0 0 2 [(0, .ref (ad 18)), (1, .int x1), (2, .int x2), (3, .int x3)] [] (wC g ad T S) := by
  unfold B_Scene_letGo_2b at hF
  refine dk_iload_n (k := 3) (i := 3) X 3 rfl rfl d_Scene_letGo_2 ?_
  refine dk_aload_n (k := 0) (i := 0) X 0 rfl rfl d_Scene_letGo_3 ?_
  refine dk_get X q_Scene 18 11 (by decide) (oC_Scene g ad T S) rfl f_Scene_58 d_Scene_letGo_4 ?_
  refine dk_icmp_ge (tgt := 42) X (by decide) d_Scene_letGo_7 hF (fun hF => ?_) (fun hF => ?_)
  · exact dk_retv hR hF d_Scene_letGo_42
  · refine dk_aload_n (k := 0) (i := 0) X 0 rfl rfl d_Scene_letGo_10 ?_
    refine dk_iload_n (k := 3) (i := 3) X 3 rfl rfl d_Scene_letGo_11 ?_
    refine dk_iload_n (k := 1) (i := 1) X 1 rfl rfl d_Scene_letGo_12 ?_
    refine dk_callVi X v_Scene_isHoldOf [.int x3, .int x1] (c_Scene_isHoldOf l g ad T n x3 x1 S) 18 (oC_Scene g ad T S) rfl rfl m_Scene_146 rfl rfl ⟨rfl, rfl, Nat.le_of_ble_eq_true rfl, Nat.le_of_ble_eq_true rfl, Nat.le_refl _, Nat.le_refl _⟩ (Nat.le_of_ble_eq_true rfl) d_Scene_letGo_13 hF (fun r2 S1 hF => ?_)
    refine dk_if_eq (tgt := 36) X (by decide) d_Scene_letGo_16 hF (fun hF => ?_) (fun hF => ?_)
    · exact (kb_Scene_letGo_36 (n := n) X hR hk2  hF)
    · refine dk_aload_n (k := 0) (i := 0) X 0 rfl rfl d_Scene_letGo_19 ?_
      refine dk_get X q_Scene 18 4 (by decide) (oC_Scene g ad T S1) rfl f_Scene_15 d_Scene_letGo_20 ?_
      refine dk_iload_n (k := 3) (i := 3) X 3 rfl rfl d_Scene_letGo_23 ?_
      refine dk_iald X 20 (aC_20 g ad T S1) d_Scene_letGo_24 hF (fun v3 hF => ?_)
      refine dk_iload_n (k := 2) (i := 2) X 2 rfl rfl d_Scene_letGo_25 ?_
      refine dk_icmp_ne (tgt := 36) X (by decide) d_Scene_letGo_26 hF (fun hF => ?_) (fun hF => ?_)
      · exact (kb_Scene_letGo_36 (n := n) X hR hk2  hF)
      · refine dk_aload_n (k := 0) (i := 0) X 0 rfl rfl d_Scene_letGo_29 ?_
        refine dk_get X q_Scene 18 10 (by decide) (oC_Scene g ad T S1) rfl f_Scene_33 d_Scene_letGo_30 ?_
        refine dk_iload_n (k := 3) (i := 3) X 3 rfl rfl d_Scene_letGo_33 ?_
        refine dk_iconst (v := 1) X (by decide) d_Scene_letGo_34 ?_
        refine dk_zast X 26 (aC_26 g ad T S1) (sC_26 g ad T S1 _ _) d_Scene_letGo_35 hF (fun S4 hF => ?_)
        exact (kb_Scene_letGo_36 (n := n) X hR hk2  hF)
def B_Scene_letGo_2 (n T : Nat)  : Nat → Int32 → Int32 → Int32 → dk_S → Option dk_S
  | 0 => fun _ _ _ _ => none
  | q + 1 => fun x1 x2 x3 S => B_Scene_letGo_2b n T (fun x1 x2 x3 S => B_Scene_letGo_2 n T  q x1 x2 x3 S) x1 x2 x3 S
theorem kb_Scene_letGo_2 {p : Program} {l : Launch} {e : Env} {s : State} {m : MethodId} {args : Array Value} {below : List Frame} {meth : Method} {c : Code} {g : dk_G} {A : Nat → Prop} {Q : State → Prop} {ad : Nat → Nat} {T : Nat} {n : Nat} {res : dk_S} (X : dk_X p s m args meth c b_Scene_letGo 4 R_Scene (none) g A) (hR : dk_Rv p l e rm_Scene_letGo s m args below meth c g A Q 4 b_Scene_letGo (none) (wC g ad T) res)  : ∀ (q : Nat) (x1 : Int32) (x2 : Int32) (x3 : Int32)  (S : dk_S), B_Scene_letGo_2 n T  q x1 x2 x3 S = some res → dk_J p l e rm_Scene_letGo s m args below meth c g A Q 4 0 0 2 [(0, .ref (ad 18)), (1, .int x1), (2, .int x2), (3, .int x3)] [] (wC g ad T S) := by
  intro q
  induction q with
  | zero => intro x1 x2 x3  S hF; cases hF
  | succ q ih => intro x1 x2 x3  S hF; exact kb_Scene_letGo_2b (n := n) X hR ih  hF
def B_Scene_letGo_0 (n T : Nat)  (x1 : Int32) (x2 : Int32) (S : dk_S) : Option dk_S :=
  B_Scene_letGo_2 n T  n x1 x2 (0 : Int32) S
set_option maxRecDepth 20000 in
theorem kb_Scene_letGo_0 {p : Program} {l : Launch} {e : Env} {s : State} {m : MethodId} {args : Array Value} {below : List Frame} {meth : Method} {c : Code} {g : dk_G} {A : Nat → Prop} {Q : State → Prop} {ad : Nat → Nat} {T : Nat} {n : Nat} {res : dk_S} (X : dk_X p s m args meth c b_Scene_letGo 4 R_Scene (none) g A) (hR : dk_Rv p l e rm_Scene_letGo s m args below meth c g A Q 4 b_Scene_letGo (none) (wC g ad T) res)  {x1 : Int32} {x2 : Int32} {S : dk_S}  (hF : B_Scene_letGo_0 n T  x1 x2 S = some res) : dk_J p l e rm_Scene_letGo s m args below meth c g A Q 4 0 0 0 [(0, .ref (ad 18)), (1, .int x1), (2, .int x2)] [] (wC g ad T S) := by
  unfold B_Scene_letGo_0 at hF
  refine dk_iconst (v := 0) X (by decide) d_Scene_letGo_0 ?_
  refine dk_istore_n (k := 3) (i := 3) (lv' := [(3, .int (0 : Int32)), (0, .ref (ad 18)), (1, .int x1), (2, .int x2)]) X rfl (by decide) rfl d_Scene_letGo_1 ?_
  exact dk_sub [1, 2, 3, 0] rfl (kb_Scene_letGo_2 (n := n) X hR  n x1 x2 (0 : Int32) S hF)
def F_Scene_letGo (n T : Nat) (x1 : Int32) (x2 : Int32) (S : dk_S) : Option dk_S := B_Scene_letGo_0 n T x1 x2 S
theorem c_Scene_letGo (l : Launch) (g : dk_G) (ad : Nat → Nat) (T n : Nat) (x1 : Int32) (x2 : Int32)  (S : dk_S) : dk_Mv l g y_Scene_letGo b_Scene_letGo 4 rm_Scene_letGo (none) [.ref (ad 18), .int x1, .int x2] (wC g ad T) S (F_Scene_letGo n T x1 x2 S) := dk_enterv (by decide) rfl (Nat.le_of_ble_eq_true rfl) (fun p e s m args below meth c A Q res hF X hR => (kb_Scene_letGo_0 (n := n) X hR  hF))
abbrev b_Scene_lose : ByteArray := prog_7_method_10_code
def y_Scene_lose : MethodName := ⟨R_Scene, "lose", "(III)V"⟩
theorem d_Scene_lose_0 : decode b_Scene_lose 0 = .ok (.iconst 0, 1) := by decide +kernel
theorem d_Scene_lose_1 : decode b_Scene_lose 1 = .ok (.istore 4, 2) := by decide +kernel
theorem d_Scene_lose_3 : decode b_Scene_lose 3 = .ok (.iload 4, 2) := by decide +kernel
theorem d_Scene_lose_5 : decode b_Scene_lose 5 = .ok (.aload_n 0, 1) := by decide +kernel
theorem d_Scene_lose_6 : decode b_Scene_lose 6 = .ok (.getfield 58, 3) := by decide +kernel
theorem d_Scene_lose_9 : decode b_Scene_lose 9 = .ok (.if_icmp .ge 50, 3) := by decide +kernel
theorem d_Scene_lose_12 : decode b_Scene_lose 12 = .ok (.aload_n 0, 1) := by decide +kernel
theorem d_Scene_lose_13 : decode b_Scene_lose 13 = .ok (.getfield 18, 3) := by decide +kernel
theorem d_Scene_lose_16 : decode b_Scene_lose 16 = .ok (.iload 4, 2) := by decide +kernel
theorem d_Scene_lose_18 : decode b_Scene_lose 18 = .ok (.iaload, 1) := by decide +kernel
theorem d_Scene_lose_19 : decode b_Scene_lose 19 = .ok (.iload_n 1, 1) := by decide +kernel
theorem d_Scene_lose_20 : decode b_Scene_lose 20 = .ok (.if_icmp .ne 33, 3) := by decide +kernel
theorem d_Scene_lose_23 : decode b_Scene_lose 23 = .ok (.aload_n 0, 1) := by decide +kernel
theorem d_Scene_lose_24 : decode b_Scene_lose 24 = .ok (.getfield 15, 3) := by decide +kernel
theorem d_Scene_lose_27 : decode b_Scene_lose 27 = .ok (.iload 4, 2) := by decide +kernel
theorem d_Scene_lose_29 : decode b_Scene_lose 29 = .ok (.iaload, 1) := by decide +kernel
theorem d_Scene_lose_30 : decode b_Scene_lose 30 = .ok (.iload_n 2, 1) := by decide +kernel
theorem d_Scene_lose_31 : decode b_Scene_lose 31 = .ok (.if_icmp .ne 22, 3) := by decide +kernel
theorem d_Scene_lose_34 : decode b_Scene_lose 34 = .ok (.aload_n 0, 1) := by decide +kernel
theorem d_Scene_lose_35 : decode b_Scene_lose 35 = .ok (.getfield 30, 3) := by decide +kernel
theorem d_Scene_lose_38 : decode b_Scene_lose 38 = .ok (.iload 4, 2) := by decide +kernel
theorem d_Scene_lose_40 : decode b_Scene_lose 40 = .ok (.iaload, 1) := by decide +kernel
theorem d_Scene_lose_41 : decode b_Scene_lose 41 = .ok (.iconst (-1), 1) := by decide +kernel
theorem d_Scene_lose_42 : decode b_Scene_lose 42 = .ok (.if_icmp .ne 11, 3) := by decide +kernel
theorem d_Scene_lose_45 : decode b_Scene_lose 45 = .ok (.aload_n 0, 1) := by decide +kernel
theorem d_Scene_lose_46 : decode b_Scene_lose 46 = .ok (.getfield 30, 3) := by decide +kernel
theorem d_Scene_lose_49 : decode b_Scene_lose 49 = .ok (.iload 4, 2) := by decide +kernel
theorem d_Scene_lose_51 : decode b_Scene_lose 51 = .ok (.iload_n 3, 1) := by decide +kernel
theorem d_Scene_lose_52 : decode b_Scene_lose 52 = .ok (.iastore, 1) := by decide +kernel
theorem d_Scene_lose_53 : decode b_Scene_lose 53 = .ok (.iinc 4 1, 3) := by decide +kernel
theorem d_Scene_lose_56 : decode b_Scene_lose 56 = .ok (.goto (-53), 3) := by decide +kernel
theorem d_Scene_lose_59 : decode b_Scene_lose 59 = .ok (.return_, 1) := by decide +kernel
theorem v_Scene_lose : dk_Yv y_Scene_lose b_Scene_lose 5 (none) 3 := ⟨dk_in (List.mem_of_getElem? (i := 713) (by decide +kernel)) rfl, dk_in (List.mem_of_getElem? (i := 20) (by decide +kernel)) rfl, dk_in (List.mem_of_getElem? (i := 72) (by decide +kernel)) rfl, dk_in (List.mem_of_getElem? (i := 714) (by decide +kernel)) rfl, by decide +kernel, by decide +kernel, by decide +kernel⟩
abbrev rm_Scene_lose : Room := { frames := 0, cells := 0, slots := 0, locals := 0 }
def B_Scene_lose_53 (n T : Nat) (k3 : Int32 → Int32 → Int32 → Int32 → dk_S → Option dk_S) (x1 : Int32) (x2 : Int32) (x3 : Int32) (x4 : Int32) (S : dk_S) : Option dk_S :=
  k3 x1 x2 x3 (x4 + (1 : Int32)) S
set_option maxRecDepth 20000 in
theorem kb_Scene_lose_53 {p : Program} {l : Launch} {e : Env} {s : State} {m : MethodId} {args : Array Value} {below : List Frame} {meth : Method} {c : Code} {g : dk_G} {A : Nat → Prop} {Q : State → Prop} {ad : Nat → Nat} {T : Nat} {n : Nat} {res : dk_S} (X : dk_X p s m args meth c b_Scene_lose 5 R_Scene (none) g A) (hR : dk_Rv p l e rm_Scene_lose s m args below meth c g A Q 5 b_Scene_lose (none) (wC g ad T) res) {k3 : Int32 → Int32 → Int32 → Int32 → dk_S → Option dk_S} (hk3 : ∀ (x1 : Int32) (x2 : Int32) (x3 : Int32) (x4 : Int32)  (S : dk_S), k3 x1 x2 x3 x4 S = some res → dk_J p l e rm_Scene_lose s m args below meth c g A Q 5 0 0 3 [(0, .ref (ad 18)), (1, .int x1), (2, .int x2), (3, .int x3), (4, .int x4)] [] (wC g ad T S)) {x1 : Int32} {x2 : Int32} {x3 : Int32} {x4 : Int32} {S : dk_S}  (hF : B_Scene_lose_53 n T k3 x1 x2 x3 x4 S = some res) : dk_J p l e rm_Scene_lose s m args below meth c g A Q 5 0 0 53 [(0, .ref (ad 18)), (1, .int x1), (2, .int x2), (3, .int x3), (4, .int x4)] [] (wC g ad T S) := by
  unfold B_Scene_lose_53 at hF
  refine dk_iinc (i := 4) (v := (x4 + (1 : Int32))) (lv' := [(4, .int (x4 + (1 : Int32))), (0, .ref (ad 18)), (1, .int x1), (2, .int x2), (3, .int x3)]) X 4 rfl (dk_ii _ (by decide)) (by decide) rfl d_Scene_lose_53 ?_
  refine dk_goto (tgt := 3) X (by decide) d_Scene_lose_56 ?_
  exact dk_sub [1, 2, 3, 4, 0] rfl (hk3 x1 x2 x3 (x4 + (1 : Int32)) S hF)
def B_Scene_lose_3b (n T : Nat) (k3 : Int32 → Int32 → Int32 → Int32 → dk_S → Option dk_S) (x1 : Int32) (x2 : Int32) (x3 : Int32) (x4 : Int32) (S : dk_S) : Option dk_S :=
  if (S 115 0) ≤ x4 then (some S) else (dk_r 44 (S 21) x4 fun v1 => if ¬ v1 = x1 then (B_Scene_lose_53 n T k3 x1 x2 x3 x4 S) else (dk_r 44 (S 20) x4 fun v2 => if ¬ v2 = x2 then (B_Scene_lose_53 n T k3 x1 x2 x3 x4 S) else (dk_r 44 (S 25) x4 fun v3 => if ¬ v3 = (-1 : Int32) then (B_Scene_lose_53 n T k3 x1 x2 x3 x4 S) else (dk_w S 25 44 x4 x3 fun S4 => B_Scene_lose_53 n T k3 x1 x2 x3 x4 S4))))
set_option maxRecDepth 20000 in
theorem kb_Scene_lose_3b {p : Program} {l : Launch} {e : Env} {s : State} {m : MethodId} {args : Array Value} {below : List Frame} {meth : Method} {c : Code} {g : dk_G} {A : Nat → Prop} {Q : State → Prop} {ad : Nat → Nat} {T : Nat} {n : Nat} {res : dk_S} (X : dk_X p s m args meth c b_Scene_lose 5 R_Scene (none) g A) (hR : dk_Rv p l e rm_Scene_lose s m args below meth c g A Q 5 b_Scene_lose (none) (wC g ad T) res) {k3 : Int32 → Int32 → Int32 → Int32 → dk_S → Option dk_S} (hk3 : ∀ (x1 : Int32) (x2 : Int32) (x3 : Int32) (x4 : Int32)  (S : dk_S), k3 x1 x2 x3 x4 S = some res → dk_J p l e rm_Scene_lose s m args below meth c g A Q 5 0 0 3 [(0, .ref (ad 18)), (1, .int x1), (2, .int x2), (3, .int x3), (4, .int x4)] [] (wC g ad T S)) {x1 : Int32} {x2 : Int32} {x3 : Int32} {x4 : Int32} {S : dk_S}  (hF : B_Scene_lose_3b n T k3 x1 x2 x3 x4 S = some res) : dk_J p l e rm_Scene_lose s m args below meth c g A Q 5 0 0 3 [(0, .ref (ad 18)), (1, .int x1), (2, .int x2), (3, .int x3), (4, .int x4)] [] (wC g ad T S) := by
  unfold B_Scene_lose_3b at hF
  refine dk_iload (i := 4) X 4 rfl d_Scene_lose_3 ?_
  refine dk_aload_n (k := 0) (i := 0) X 0 rfl rfl d_Scene_lose_5 ?_
  refine dk_get X q_Scene 18 11 (by decide) (oC_Scene g ad T S) rfl f_Scene_58 d_Scene_lose_6 ?_
  refine dk_icmp_ge (tgt := 59) X (by decide) d_Scene_lose_9 hF (fun hF => ?_) (fun hF => ?_)
  · exact dk_retv hR hF d_Scene_lose_59
  · refine dk_aload_n (k := 0) (i := 0) X 0 rfl rfl d_Scene_lose_12 ?_
    refine dk_get X q_Scene 18 5 (by decide) (oC_Scene g ad T S) rfl f_Scene_18 d_Scene_lose_13 ?_
    refine dk_iload (i := 4) X 4 rfl d_Scene_lose_16 ?_
    refine dk_iald X 21 (aC_21 g ad T S) d_Scene_lose_18 hF (fun v1 hF => ?_)
    refine dk_iload_n (k := 1) (i := 1) X 1 rfl rfl d_Scene_lose_19 ?_
    refine dk_icmp_ne (tgt := 53) X (by decide) d_Scene_lose_20 hF (fun hF => ?_) (fun hF => ?_)
    · exact (kb_Scene_lose_53 (n := n) X hR hk3  hF)
    · refine dk_aload_n (k := 0) (i := 0) X 0 rfl rfl d_Scene_lose_23 ?_
      refine dk_get X q_Scene 18 4 (by decide) (oC_Scene g ad T S) rfl f_Scene_15 d_Scene_lose_24 ?_
      refine dk_iload (i := 4) X 4 rfl d_Scene_lose_27 ?_
      refine dk_iald X 20 (aC_20 g ad T S) d_Scene_lose_29 hF (fun v2 hF => ?_)
      refine dk_iload_n (k := 2) (i := 2) X 2 rfl rfl d_Scene_lose_30 ?_
      refine dk_icmp_ne (tgt := 53) X (by decide) d_Scene_lose_31 hF (fun hF => ?_) (fun hF => ?_)
      · exact (kb_Scene_lose_53 (n := n) X hR hk3  hF)
      · refine dk_aload_n (k := 0) (i := 0) X 0 rfl rfl d_Scene_lose_34 ?_
        refine dk_get X q_Scene 18 9 (by decide) (oC_Scene g ad T S) rfl f_Scene_30 d_Scene_lose_35 ?_
        refine dk_iload (i := 4) X 4 rfl d_Scene_lose_38 ?_
        refine dk_iald X 25 (aC_25 g ad T S) d_Scene_lose_40 hF (fun v3 hF => ?_)
        refine dk_iconst (v := -1) X (by decide) d_Scene_lose_41 ?_
        refine dk_icmp_ne (tgt := 53) X (by decide) d_Scene_lose_42 hF (fun hF => ?_) (fun hF => ?_)
        · exact (kb_Scene_lose_53 (n := n) X hR hk3  hF)
        · refine dk_aload_n (k := 0) (i := 0) X 0 rfl rfl d_Scene_lose_45 ?_
          refine dk_get X q_Scene 18 9 (by decide) (oC_Scene g ad T S) rfl f_Scene_30 d_Scene_lose_46 ?_
          refine dk_iload (i := 4) X 4 rfl d_Scene_lose_49 ?_
          refine dk_iload_n (k := 3) (i := 3) X 3 rfl rfl d_Scene_lose_51 ?_
          refine dk_iast X 25 (aC_25 g ad T S) (sC_25 g ad T S _ _) d_Scene_lose_52 hF (fun S4 hF => ?_)
          exact (kb_Scene_lose_53 (n := n) X hR hk3  hF)
def B_Scene_lose_3 (n T : Nat)  : Nat → Int32 → Int32 → Int32 → Int32 → dk_S → Option dk_S
  | 0 => fun _ _ _ _ _ => none
  | q + 1 => fun x1 x2 x3 x4 S => B_Scene_lose_3b n T (fun x1 x2 x3 x4 S => B_Scene_lose_3 n T  q x1 x2 x3 x4 S) x1 x2 x3 x4 S
theorem kb_Scene_lose_3 {p : Program} {l : Launch} {e : Env} {s : State} {m : MethodId} {args : Array Value} {below : List Frame} {meth : Method} {c : Code} {g : dk_G} {A : Nat → Prop} {Q : State → Prop} {ad : Nat → Nat} {T : Nat} {n : Nat} {res : dk_S} (X : dk_X p s m args meth c b_Scene_lose 5 R_Scene (none) g A) (hR : dk_Rv p l e rm_Scene_lose s m args below meth c g A Q 5 b_Scene_lose (none) (wC g ad T) res)  : ∀ (q : Nat) (x1 : Int32) (x2 : Int32) (x3 : Int32) (x4 : Int32)  (S : dk_S), B_Scene_lose_3 n T  q x1 x2 x3 x4 S = some res → dk_J p l e rm_Scene_lose s m args below meth c g A Q 5 0 0 3 [(0, .ref (ad 18)), (1, .int x1), (2, .int x2), (3, .int x3), (4, .int x4)] [] (wC g ad T S) := by
  intro q
  induction q with
  | zero => intro x1 x2 x3 x4  S hF; cases hF
  | succ q ih => intro x1 x2 x3 x4  S hF; exact kb_Scene_lose_3b (n := n) X hR ih  hF
def B_Scene_lose_0 (n T : Nat)  (x1 : Int32) (x2 : Int32) (x3 : Int32) (S : dk_S) : Option dk_S :=
  B_Scene_lose_3 n T  n x1 x2 x3 (0 : Int32) S
set_option maxRecDepth 20000 in
theorem kb_Scene_lose_0 {p : Program} {l : Launch} {e : Env} {s : State} {m : MethodId} {args : Array Value} {below : List Frame} {meth : Method} {c : Code} {g : dk_G} {A : Nat → Prop} {Q : State → Prop} {ad : Nat → Nat} {T : Nat} {n : Nat} {res : dk_S} (X : dk_X p s m args meth c b_Scene_lose 5 R_Scene (none) g A) (hR : dk_Rv p l e rm_Scene_lose s m args below meth c g A Q 5 b_Scene_lose (none) (wC g ad T) res)  {x1 : Int32} {x2 : Int32} {x3 : Int32} {S : dk_S}  (hF : B_Scene_lose_0 n T  x1 x2 x3 S = some res) : dk_J p l e rm_Scene_lose s m args below meth c g A Q 5 0 0 0 [(0, .ref (ad 18)), (1, .int x1), (2, .int x2), (3, .int x3)] [] (wC g ad T S) := by
  unfold B_Scene_lose_0 at hF
  refine dk_iconst (v := 0) X (by decide) d_Scene_lose_0 ?_
  refine dk_istore (i := 4) (lv' := [(4, .int (0 : Int32)), (0, .ref (ad 18)), (1, .int x1), (2, .int x2), (3, .int x3)]) X (by decide) rfl d_Scene_lose_1 ?_
  exact dk_sub [1, 2, 3, 4, 0] rfl (kb_Scene_lose_3 (n := n) X hR  n x1 x2 x3 (0 : Int32) S hF)
def F_Scene_lose (n T : Nat) (x1 : Int32) (x2 : Int32) (x3 : Int32) (S : dk_S) : Option dk_S := B_Scene_lose_0 n T x1 x2 x3 S
theorem c_Scene_lose (l : Launch) (g : dk_G) (ad : Nat → Nat) (T n : Nat) (x1 : Int32) (x2 : Int32) (x3 : Int32)  (S : dk_S) : dk_Mv l g y_Scene_lose b_Scene_lose 5 rm_Scene_lose (none) [.ref (ad 18), .int x1, .int x2, .int x3] (wC g ad T) S (F_Scene_lose n T x1 x2 x3 S) := dk_enterv (by decide) rfl (Nat.le_of_ble_eq_true rfl) (fun p e s m args below meth c A Q res hF X hR => (kb_Scene_lose_0 (n := n) X hR  hF))
abbrev b_Scene_makeOfLiving : ByteArray := prog_7_method_7_code
def y_Scene_makeOfLiving : MethodName := ⟨R_Scene, "makeOfLiving", "(IIIII)V"⟩
theorem d_Scene_makeOfLiving_0 : decode b_Scene_makeOfLiving 0 = .ok (.aload_n 0, 1) := by decide +kernel
theorem d_Scene_makeOfLiving_1 : decode b_Scene_makeOfLiving 1 = .ok (.getfield 43, 3) := by decide +kernel
theorem d_Scene_makeOfLiving_4 : decode b_Scene_makeOfLiving 4 = .ok (.iload_n 2, 1) := by decide +kernel
theorem d_Scene_makeOfLiving_5 : decode b_Scene_makeOfLiving 5 = .ok (.baload, 1) := by decide +kernel
theorem d_Scene_makeOfLiving_6 : decode b_Scene_makeOfLiving 6 = .ok (.ifCond .ne 14, 3) := by decide +kernel
theorem d_Scene_makeOfLiving_9 : decode b_Scene_makeOfLiving 9 = .ok (.aload_n 0, 1) := by decide +kernel
theorem d_Scene_makeOfLiving_10 : decode b_Scene_makeOfLiving 10 = .ok (.iload_n 1, 1) := by decide +kernel
theorem d_Scene_makeOfLiving_11 : decode b_Scene_makeOfLiving 11 = .ok (.iload_n 2, 1) := by decide +kernel
theorem d_Scene_makeOfLiving_12 : decode b_Scene_makeOfLiving 12 = .ok (.iload_n 3, 1) := by decide +kernel
theorem d_Scene_makeOfLiving_13 : decode b_Scene_makeOfLiving 13 = .ok (.iload 4, 2) := by decide +kernel
theorem d_Scene_makeOfLiving_15 : decode b_Scene_makeOfLiving 15 = .ok (.iload 5, 2) := by decide +kernel
theorem d_Scene_makeOfLiving_17 : decode b_Scene_makeOfLiving 17 = .ok (.invokevirtual 93, 3) := by decide +kernel
theorem d_Scene_makeOfLiving_20 : decode b_Scene_makeOfLiving 20 = .ok (.return_, 1) := by decide +kernel
theorem v_Scene_makeOfLiving : dk_Yv y_Scene_makeOfLiving b_Scene_makeOfLiving 6 (none) 5 := ⟨dk_in (List.mem_of_getElem? (i := 709) (by decide +kernel)) rfl, dk_in (List.mem_of_getElem? (i := 19) (by decide +kernel)) rfl, dk_in (List.mem_of_getElem? (i := 72) (by decide +kernel)) rfl, dk_in (List.mem_of_getElem? (i := 710) (by decide +kernel)) rfl, by decide +kernel, by decide +kernel, by decide +kernel⟩
abbrev rm_Scene_makeOfLiving : Room := { frames := 1, cells := 0, slots := 0, locals := 25 }
def B_Scene_makeOfLiving_0 (n T : Nat)  (x1 : Int32) (x2 : Int32) (x3 : Int32) (x4 : Int32) (x5 : Int32) (S : dk_S) : Option dk_S :=
  dk_r 6 (S 29) x2 fun v1 => if ¬ v1 = 0 then (some S) else (dk_cv (F_Scene_make n T x1 x2 x3 x4 x5 S) fun S2 => some S2)
set_option maxRecDepth 20000 in
theorem kb_Scene_makeOfLiving_0 {p : Program} {l : Launch} {e : Env} {s : State} {m : MethodId} {args : Array Value} {below : List Frame} {meth : Method} {c : Code} {g : dk_G} {A : Nat → Prop} {Q : State → Prop} {ad : Nat → Nat} {T : Nat} {n : Nat} {res : dk_S} (X : dk_X p s m args meth c b_Scene_makeOfLiving 6 R_Scene (none) g A) (hR : dk_Rv p l e rm_Scene_makeOfLiving s m args below meth c g A Q 6 b_Scene_makeOfLiving (none) (wC g ad T) res)  {x1 : Int32} {x2 : Int32} {x3 : Int32} {x4 : Int32} {x5 : Int32} {S : dk_S}  (hF : B_Scene_makeOfLiving_0 n T  x1 x2 x3 x4 x5 S = some res) : dk_J p l e rm_Scene_makeOfLiving s m args below meth c g A Q 6 0 0 0 [(0, .ref (ad 18)), (1, .int x1), (2, .int x2), (3, .int x3), (4, .int x4), (5, .int x5)] [] (wC g ad T S) := by
  unfold B_Scene_makeOfLiving_0 at hF
  refine dk_aload_n (k := 0) (i := 0) X 0 rfl rfl d_Scene_makeOfLiving_0 ?_
  refine dk_get X q_Scene 18 15 (by decide) (oC_Scene g ad T S) rfl f_Scene_43 d_Scene_makeOfLiving_1 ?_
  refine dk_iload_n (k := 2) (i := 2) X 2 rfl rfl d_Scene_makeOfLiving_4 ?_
  refine dk_zald X 29 (aC_29 g ad T S) d_Scene_makeOfLiving_5 hF (fun v1 hF => ?_)
  refine dk_if_ne (tgt := 20) X (by decide) d_Scene_makeOfLiving_6 hF (fun hF => ?_) (fun hF => ?_)
  · exact dk_retv hR hF d_Scene_makeOfLiving_20
  · refine dk_aload_n (k := 0) (i := 0) X 0 rfl rfl d_Scene_makeOfLiving_9 ?_
    refine dk_iload_n (k := 1) (i := 1) X 1 rfl rfl d_Scene_makeOfLiving_10 ?_
    refine dk_iload_n (k := 2) (i := 2) X 2 rfl rfl d_Scene_makeOfLiving_11 ?_
    refine dk_iload_n (k := 3) (i := 3) X 3 rfl rfl d_Scene_makeOfLiving_12 ?_
    refine dk_iload (i := 4) X 4 rfl d_Scene_makeOfLiving_13 ?_
    refine dk_iload (i := 5) X 5 rfl d_Scene_makeOfLiving_15 ?_
    refine dk_callVv X v_Scene_make [.int x1, .int x2, .int x3, .int x4, .int x5] (c_Scene_make l g ad T n x1 x2 x3 x4 x5 S) 18 (oC_Scene g ad T S) rfl rfl m_Scene_93 rfl rfl ⟨rfl, rfl, Nat.le_of_ble_eq_true rfl, Nat.le_of_ble_eq_true rfl, Nat.le_refl _, Nat.le_refl _⟩ (Nat.le_of_ble_eq_true rfl) d_Scene_makeOfLiving_17 hF (fun S2 hF => ?_)
    exact dk_retv hR hF d_Scene_makeOfLiving_20
def F_Scene_makeOfLiving (n T : Nat) (x1 : Int32) (x2 : Int32) (x3 : Int32) (x4 : Int32) (x5 : Int32) (S : dk_S) : Option dk_S := B_Scene_makeOfLiving_0 n T x1 x2 x3 x4 x5 S
theorem c_Scene_makeOfLiving (l : Launch) (g : dk_G) (ad : Nat → Nat) (T n : Nat) (x1 : Int32) (x2 : Int32) (x3 : Int32) (x4 : Int32) (x5 : Int32)  (S : dk_S) : dk_Mv l g y_Scene_makeOfLiving b_Scene_makeOfLiving 6 rm_Scene_makeOfLiving (none) [.ref (ad 18), .int x1, .int x2, .int x3, .int x4, .int x5] (wC g ad T) S (F_Scene_makeOfLiving n T x1 x2 x3 x4 x5 S) := dk_enterv (by decide) rfl (Nat.le_of_ble_eq_true rfl) (fun p e s m args below meth c A Q res hF X hR => (kb_Scene_makeOfLiving_0 (n := n) X hR  hF))
abbrev b_Scene_live : ByteArray := prog_7_method_6_code
def y_Scene_live : MethodName := ⟨R_Scene, "live", "(I)V"⟩
theorem d_Scene_live_0 : decode b_Scene_live 0 = .ok (.aload_n 0, 1) := by decide +kernel
theorem d_Scene_live_1 : decode b_Scene_live 1 = .ok (.getfield 50, 3) := by decide +kernel
theorem d_Scene_live_4 : decode b_Scene_live 4 = .ok (.iload_n 1, 1) := by decide +kernel
theorem d_Scene_live_5 : decode b_Scene_live 5 = .ok (.invokevirtual 101, 3) := by decide +kernel
theorem d_Scene_live_8 : decode b_Scene_live 8 = .ok (.ifCond .eq 22, 3) := by decide +kernel
theorem d_Scene_live_11 : decode b_Scene_live 11 = .ok (.aload_n 0, 1) := by decide +kernel
theorem d_Scene_live_12 : decode b_Scene_live 12 = .ok (.getfield 46, 3) := by decide +kernel
theorem d_Scene_live_15 : decode b_Scene_live 15 = .ok (.aload_n 0, 1) := by decide +kernel
theorem d_Scene_live_16 : decode b_Scene_live 16 = .ok (.getfield 50, 3) := by decide +kernel
theorem d_Scene_live_19 : decode b_Scene_live 19 = .ok (.getfield 104, 3) := by decide +kernel
theorem d_Scene_live_22 : decode b_Scene_live 22 = .ok (.iload_n 1, 1) := by decide +kernel
theorem d_Scene_live_23 : decode b_Scene_live 23 = .ok (.iaload, 1) := by decide +kernel
theorem d_Scene_live_24 : decode b_Scene_live 24 = .ok (.invokevirtual 105, 3) := by decide +kernel
theorem d_Scene_live_27 : decode b_Scene_live 27 = .ok (.ifCond .ne 4, 3) := by decide +kernel
theorem d_Scene_live_30 : decode b_Scene_live 30 = .ok (.return_, 1) := by decide +kernel
theorem d_Scene_live_31 : decode b_Scene_live 31 = .ok (.aload_n 0, 1) := by decide +kernel
theorem d_Scene_live_32 : decode b_Scene_live 32 = .ok (.getfield 50, 3) := by decide +kernel
theorem d_Scene_live_35 : decode b_Scene_live 35 = .ok (.getfield 104, 3) := by decide +kernel
theorem d_Scene_live_38 : decode b_Scene_live 38 = .ok (.iload_n 1, 1) := by decide +kernel
theorem d_Scene_live_39 : decode b_Scene_live 39 = .ok (.iaload, 1) := by decide +kernel
theorem d_Scene_live_40 : decode b_Scene_live 40 = .ok (.istore_n 2, 1) := by decide +kernel
theorem d_Scene_live_41 : decode b_Scene_live 41 = .ok (.aload_n 0, 1) := by decide +kernel
theorem d_Scene_live_42 : decode b_Scene_live 42 = .ok (.getfield 50, 3) := by decide +kernel
theorem d_Scene_live_45 : decode b_Scene_live 45 = .ok (.getfield 108, 3) := by decide +kernel
theorem d_Scene_live_48 : decode b_Scene_live 48 = .ok (.iload_n 1, 1) := by decide +kernel
theorem d_Scene_live_49 : decode b_Scene_live 49 = .ok (.iaload, 1) := by decide +kernel
theorem d_Scene_live_50 : decode b_Scene_live 50 = .ok (.istore_n 3, 1) := by decide +kernel
theorem d_Scene_live_51 : decode b_Scene_live 51 = .ok (.aload_n 0, 1) := by decide +kernel
theorem d_Scene_live_52 : decode b_Scene_live 52 = .ok (.getfield 50, 3) := by decide +kernel
theorem d_Scene_live_55 : decode b_Scene_live 55 = .ok (.getfield 111, 3) := by decide +kernel
theorem d_Scene_live_58 : decode b_Scene_live 58 = .ok (.iload_n 1, 1) := by decide +kernel
theorem d_Scene_live_59 : decode b_Scene_live 59 = .ok (.iaload, 1) := by decide +kernel
theorem d_Scene_live_60 : decode b_Scene_live 60 = .ok (.istore 4, 2) := by decide +kernel
theorem d_Scene_live_62 : decode b_Scene_live 62 = .ok (.aload_n 0, 1) := by decide +kernel
theorem d_Scene_live_63 : decode b_Scene_live 63 = .ok (.getfield 50, 3) := by decide +kernel
theorem d_Scene_live_66 : decode b_Scene_live 66 = .ok (.getfield 114, 3) := by decide +kernel
theorem d_Scene_live_69 : decode b_Scene_live 69 = .ok (.iload_n 1, 1) := by decide +kernel
theorem d_Scene_live_70 : decode b_Scene_live 70 = .ok (.iaload, 1) := by decide +kernel
theorem d_Scene_live_71 : decode b_Scene_live 71 = .ok (.istore 5, 2) := by decide +kernel
theorem d_Scene_live_73 : decode b_Scene_live 73 = .ok (.aload_n 0, 1) := by decide +kernel
theorem d_Scene_live_74 : decode b_Scene_live 74 = .ok (.iload 4, 2) := by decide +kernel
theorem d_Scene_live_76 : decode b_Scene_live 76 = .ok (.putfield 75, 3) := by decide +kernel
theorem d_Scene_live_79 : decode b_Scene_live 79 = .ok (.aload_n 0, 1) := by decide +kernel
theorem d_Scene_live_80 : decode b_Scene_live 80 = .ok (.getfield 50, 3) := by decide +kernel
theorem d_Scene_live_83 : decode b_Scene_live 83 = .ok (.getfield 117, 3) := by decide +kernel
theorem d_Scene_live_86 : decode b_Scene_live 86 = .ok (.iload_n 1, 1) := by decide +kernel
theorem d_Scene_live_87 : decode b_Scene_live 87 = .ok (.iaload, 1) := by decide +kernel
theorem d_Scene_live_88 : decode b_Scene_live 88 = .ok (.tableswitch 174 0 9 #[56, 69, 82, 96, 122, 133, 145, 109, 154, 163], 56) := by decide +kernel
theorem d_Scene_live_144 : decode b_Scene_live 144 = .ok (.aload_n 0, 1) := by decide +kernel
theorem d_Scene_live_145 : decode b_Scene_live 145 = .ok (.iconst 0, 1) := by decide +kernel
theorem d_Scene_live_146 : decode b_Scene_live 146 = .ok (.iload_n 2, 1) := by decide +kernel
theorem d_Scene_live_147 : decode b_Scene_live 147 = .ok (.iload_n 3, 1) := by decide +kernel
theorem d_Scene_live_148 : decode b_Scene_live 148 = .ok (.iload 4, 2) := by decide +kernel
theorem d_Scene_live_150 : decode b_Scene_live 150 = .ok (.iconst 0, 1) := by decide +kernel
theorem d_Scene_live_151 : decode b_Scene_live 151 = .ok (.invokevirtual 120, 3) := by decide +kernel
theorem d_Scene_live_154 : decode b_Scene_live 154 = .ok (.goto 108, 3) := by decide +kernel
theorem d_Scene_live_157 : decode b_Scene_live 157 = .ok (.aload_n 0, 1) := by decide +kernel
theorem d_Scene_live_158 : decode b_Scene_live 158 = .ok (.iconst 1, 1) := by decide +kernel
theorem d_Scene_live_159 : decode b_Scene_live 159 = .ok (.iload_n 2, 1) := by decide +kernel
theorem d_Scene_live_160 : decode b_Scene_live 160 = .ok (.iload_n 3, 1) := by decide +kernel
theorem d_Scene_live_161 : decode b_Scene_live 161 = .ok (.iload 4, 2) := by decide +kernel
theorem d_Scene_live_163 : decode b_Scene_live 163 = .ok (.iconst 0, 1) := by decide +kernel
theorem d_Scene_live_164 : decode b_Scene_live 164 = .ok (.invokevirtual 120, 3) := by decide +kernel
theorem d_Scene_live_167 : decode b_Scene_live 167 = .ok (.goto 95, 3) := by decide +kernel
theorem d_Scene_live_170 : decode b_Scene_live 170 = .ok (.aload_n 0, 1) := by decide +kernel
theorem d_Scene_live_171 : decode b_Scene_live 171 = .ok (.iconst 2, 1) := by decide +kernel
theorem d_Scene_live_172 : decode b_Scene_live 172 = .ok (.iload_n 2, 1) := by decide +kernel
theorem d_Scene_live_173 : decode b_Scene_live 173 = .ok (.iload_n 3, 1) := by decide +kernel
theorem d_Scene_live_174 : decode b_Scene_live 174 = .ok (.iload 4, 2) := by decide +kernel
theorem d_Scene_live_176 : decode b_Scene_live 176 = .ok (.iload 5, 2) := by decide +kernel
theorem d_Scene_live_178 : decode b_Scene_live 178 = .ok (.invokevirtual 120, 3) := by decide +kernel
theorem d_Scene_live_181 : decode b_Scene_live 181 = .ok (.goto 81, 3) := by decide +kernel
theorem d_Scene_live_184 : decode b_Scene_live 184 = .ok (.aload_n 0, 1) := by decide +kernel
theorem d_Scene_live_185 : decode b_Scene_live 185 = .ok (.iconst 3, 1) := by decide +kernel
theorem d_Scene_live_186 : decode b_Scene_live 186 = .ok (.iload_n 2, 1) := by decide +kernel
theorem d_Scene_live_187 : decode b_Scene_live 187 = .ok (.iload_n 3, 1) := by decide +kernel
theorem d_Scene_live_188 : decode b_Scene_live 188 = .ok (.iload 4, 2) := by decide +kernel
theorem d_Scene_live_190 : decode b_Scene_live 190 = .ok (.iconst 0, 1) := by decide +kernel
theorem d_Scene_live_191 : decode b_Scene_live 191 = .ok (.invokevirtual 93, 3) := by decide +kernel
theorem d_Scene_live_194 : decode b_Scene_live 194 = .ok (.goto 68, 3) := by decide +kernel
theorem d_Scene_live_197 : decode b_Scene_live 197 = .ok (.aload_n 0, 1) := by decide +kernel
theorem d_Scene_live_198 : decode b_Scene_live 198 = .ok (.iconst 3, 1) := by decide +kernel
theorem d_Scene_live_199 : decode b_Scene_live 199 = .ok (.iload_n 2, 1) := by decide +kernel
theorem d_Scene_live_200 : decode b_Scene_live 200 = .ok (.iload_n 3, 1) := by decide +kernel
theorem d_Scene_live_201 : decode b_Scene_live 201 = .ok (.iload 4, 2) := by decide +kernel
theorem d_Scene_live_203 : decode b_Scene_live 203 = .ok (.iconst 5, 1) := by decide +kernel
theorem d_Scene_live_204 : decode b_Scene_live 204 = .ok (.invokevirtual 93, 3) := by decide +kernel
theorem d_Scene_live_207 : decode b_Scene_live 207 = .ok (.goto 55, 3) := by decide +kernel
theorem d_Scene_live_210 : decode b_Scene_live 210 = .ok (.aload_n 0, 1) := by decide +kernel
theorem d_Scene_live_211 : decode b_Scene_live 211 = .ok (.iload_n 2, 1) := by decide +kernel
theorem d_Scene_live_212 : decode b_Scene_live 212 = .ok (.iload_n 3, 1) := by decide +kernel
theorem d_Scene_live_213 : decode b_Scene_live 213 = .ok (.iload 4, 2) := by decide +kernel
theorem d_Scene_live_215 : decode b_Scene_live 215 = .ok (.invokevirtual 123, 3) := by decide +kernel
theorem d_Scene_live_218 : decode b_Scene_live 218 = .ok (.goto 44, 3) := by decide +kernel
theorem d_Scene_live_221 : decode b_Scene_live 221 = .ok (.aload_n 0, 1) := by decide +kernel
theorem d_Scene_live_222 : decode b_Scene_live 222 = .ok (.iload_n 2, 1) := by decide +kernel
theorem d_Scene_live_223 : decode b_Scene_live 223 = .ok (.iload 5, 2) := by decide +kernel
theorem d_Scene_live_225 : decode b_Scene_live 225 = .ok (.iload 4, 2) := by decide +kernel
theorem d_Scene_live_227 : decode b_Scene_live 227 = .ok (.invokevirtual 127, 3) := by decide +kernel
theorem d_Scene_live_230 : decode b_Scene_live 230 = .ok (.goto 32, 3) := by decide +kernel
theorem d_Scene_live_233 : decode b_Scene_live 233 = .ok (.aload_n 0, 1) := by decide +kernel
theorem d_Scene_live_234 : decode b_Scene_live 234 = .ok (.iload_n 2, 1) := by decide +kernel
theorem d_Scene_live_235 : decode b_Scene_live 235 = .ok (.iload_n 3, 1) := by decide +kernel
theorem d_Scene_live_236 : decode b_Scene_live 236 = .ok (.invokevirtual 130, 3) := by decide +kernel
theorem d_Scene_live_239 : decode b_Scene_live 239 = .ok (.goto 23, 3) := by decide +kernel
theorem d_Scene_live_242 : decode b_Scene_live 242 = .ok (.aload_n 0, 1) := by decide +kernel
theorem d_Scene_live_243 : decode b_Scene_live 243 = .ok (.iload_n 2, 1) := by decide +kernel
theorem d_Scene_live_244 : decode b_Scene_live 244 = .ok (.iload_n 3, 1) := by decide +kernel
theorem d_Scene_live_245 : decode b_Scene_live 245 = .ok (.invokevirtual 133, 3) := by decide +kernel
theorem d_Scene_live_248 : decode b_Scene_live 248 = .ok (.goto 14, 3) := by decide +kernel
theorem d_Scene_live_251 : decode b_Scene_live 251 = .ok (.aload_n 0, 1) := by decide +kernel
theorem d_Scene_live_252 : decode b_Scene_live 252 = .ok (.iload_n 2, 1) := by decide +kernel
theorem d_Scene_live_253 : decode b_Scene_live 253 = .ok (.iload_n 3, 1) := by decide +kernel
theorem d_Scene_live_254 : decode b_Scene_live 254 = .ok (.iload 5, 2) := by decide +kernel
theorem d_Scene_live_256 : decode b_Scene_live 256 = .ok (.invokevirtual 136, 3) := by decide +kernel
theorem d_Scene_live_259 : decode b_Scene_live 259 = .ok (.goto 3, 3) := by decide +kernel
theorem d_Scene_live_262 : decode b_Scene_live 262 = .ok (.return_, 1) := by decide +kernel
theorem v_Scene_live : dk_Yv y_Scene_live b_Scene_live 6 (none) 1 := ⟨dk_in (List.mem_of_getElem? (i := 702) (by decide +kernel)) rfl, dk_in (List.mem_of_getElem? (i := 703) (by decide +kernel)) rfl, dk_in (List.mem_of_getElem? (i := 72) (by decide +kernel)) rfl, dk_in (List.mem_of_getElem? (i := 704) (by decide +kernel)) rfl, by decide +kernel, by decide +kernel, by decide +kernel⟩
abbrev rm_Scene_live : Room := { frames := 3, cells := 0, slots := 0, locals := 71 }
theorem f_Scene_104 : Cond.fieldLink R_Scene 104 (T_Diary 2).1 (T_Diary 2).2.1 (T_Diary 2).2.2.1 ∈ dk_tb := dk_in (List.mem_of_getElem? (i := 137) (by decide +kernel)) rfl
theorem f_Scene_108 : Cond.fieldLink R_Scene 108 (T_Diary 3).1 (T_Diary 3).2.1 (T_Diary 3).2.2.1 ∈ dk_tb := dk_in (List.mem_of_getElem? (i := 140) (by decide +kernel)) rfl
theorem f_Scene_111 : Cond.fieldLink R_Scene 111 (T_Diary 0).1 (T_Diary 0).2.1 (T_Diary 0).2.2.1 ∈ dk_tb := dk_in (List.mem_of_getElem? (i := 131) (by decide +kernel)) rfl
theorem f_Scene_114 : Cond.fieldLink R_Scene 114 (T_Diary 4).1 (T_Diary 4).2.1 (T_Diary 4).2.2.1 ∈ dk_tb := dk_in (List.mem_of_getElem? (i := 143) (by decide +kernel)) rfl
theorem f_Scene_117 : Cond.fieldLink R_Scene 117 (T_Diary 1).1 (T_Diary 1).2.1 (T_Diary 1).2.2.1 ∈ dk_tb := dk_in (List.mem_of_getElem? (i := 134) (by decide +kernel)) rfl
theorem f_Scene_50 : Cond.fieldLink R_Scene 50 (T_Scene 1).1 (T_Scene 1).2.1 (T_Scene 1).2.2.1 ∈ dk_tb := dk_in (List.mem_of_getElem? (i := 251) (by decide +kernel)) rfl
theorem m_Scene_101 : Cond.methodLink R_Scene 101 y_Diary_has ∈ dk_tb := dk_in (List.mem_of_getElem? (i := 705) (by decide +kernel)) rfl
theorem m_Scene_105 : Cond.methodLink R_Scene 105 y_Land_hasBeast ∈ dk_tb := dk_in (List.mem_of_getElem? (i := 706) (by decide +kernel)) rfl
theorem m_Scene_120 : Cond.methodLink R_Scene 120 y_Scene_makeOfLiving ∈ dk_tb := dk_in (List.mem_of_getElem? (i := 707) (by decide +kernel)) rfl
theorem m_Scene_123 : Cond.methodLink R_Scene 123 y_Scene_lose ∈ dk_tb := dk_in (List.mem_of_getElem? (i := 711) (by decide +kernel)) rfl
theorem m_Scene_127 : Cond.methodLink R_Scene 127 y_Scene_cross ∈ dk_tb := dk_in (List.mem_of_getElem? (i := 715) (by decide +kernel)) rfl
theorem m_Scene_130 : Cond.methodLink R_Scene 130 y_Scene_kill ∈ dk_tb := dk_in (List.mem_of_getElem? (i := 719) (by decide +kernel)) rfl
theorem m_Scene_133 : Cond.methodLink R_Scene 133 y_Scene_letGo ∈ dk_tb := dk_in (List.mem_of_getElem? (i := 727) (by decide +kernel)) rfl
theorem m_Scene_136 : Cond.methodLink R_Scene 136 y_Scene_give ∈ dk_tb := dk_in (List.mem_of_getElem? (i := 735) (by decide +kernel)) rfl
def B_Scene_live_0 (n T : Nat)  (x1 : Int32) (S : dk_S) : Option dk_S :=
  dk_c (F_Diary_has n T x1 S) fun r2 S1 => if r2 = 0 then (some S1) else (dk_r 32 (S1 8) x1 fun v3 => dk_c (F_Land_hasBeast n T v3 S1) fun r5 S4 => if ¬ r5 = 0 then (dk_r 32 (S4 8) x1 fun v6 => dk_r 32 (S4 9) x1 fun v7 => dk_r 32 (S4 6) x1 fun v8 => dk_r 32 (S4 10) x1 fun v9 => dk_p S4 116 v8 fun S10 => dk_r 32 (S10 7) x1 fun v11 => if v11 = (0 : Int32) then (dk_cv (F_Scene_makeOfLiving n T (0 : Int32) v6 v7 v8 (0 : Int32) S10) fun S12 => some S12) else (if v11 = (1 : Int32) then (dk_cv (F_Scene_makeOfLiving n T (1 : Int32) v6 v7 v8 (0 : Int32) S10) fun S14 => some S14) else (if v11 = (2 : Int32) then (dk_cv (F_Scene_makeOfLiving n T (2 : Int32) v6 v7 v8 v9 S10) fun S16 => some S16) else (if v11 = (3 : Int32) then (dk_cv (F_Scene_make n T (3 : Int32) v6 v7 v8 (0 : Int32) S10) fun S18 => some S18) else (if v11 = (4 : Int32) then (dk_cv (F_Scene_lose n T v6 v7 v8 S10) fun S20 => some S20) else (if v11 = (5 : Int32) then (dk_cv (F_Scene_cross n T v6 v9 v8 S10) fun S22 => some S22) else (if v11 = (6 : Int32) then (dk_cv (F_Scene_kill n T v6 v7 S10) fun S24 => some S24) else (if v11 = (7 : Int32) then (dk_cv (F_Scene_make n T (3 : Int32) v6 v7 v8 (5 : Int32) S10) fun S26 => some S26) else (if v11 = (8 : Int32) then (dk_cv (F_Scene_letGo n T v6 v7 S10) fun S28 => some S28) else (if v11 = (9 : Int32) then (dk_cv (F_Scene_give n T v6 v7 v9 S10) fun S30 => some S30) else (some S10))))))))))) else (some S4))
set_option maxRecDepth 20000 in
theorem kb_Scene_live_0 {p : Program} {l : Launch} {e : Env} {s : State} {m : MethodId} {args : Array Value} {below : List Frame} {meth : Method} {c : Code} {g : dk_G} {A : Nat → Prop} {Q : State → Prop} {ad : Nat → Nat} {T : Nat} {n : Nat} {res : dk_S} (X : dk_X p s m args meth c b_Scene_live 6 R_Scene (none) g A) (hR : dk_Rv p l e rm_Scene_live s m args below meth c g A Q 6 b_Scene_live (none) (wC g ad T) res)  {x1 : Int32} {S : dk_S}  (hF : B_Scene_live_0 n T  x1 S = some res) : dk_J p l e rm_Scene_live s m args below meth c g A Q 6 0 0 0 [(0, .ref (ad 18)), (1, .int x1)] [] (wC g ad T S) := by
  unfold B_Scene_live_0 at hF
  refine dk_aload_n (k := 0) (i := 0) X 0 rfl rfl d_Scene_live_0 ?_
  refine dk_get X q_Scene 18 1 (by decide) (oC_Scene g ad T S) rfl f_Scene_50 d_Scene_live_1 ?_
  refine dk_iload_n (k := 1) (i := 1) X 1 rfl rfl d_Scene_live_4 ?_
  refine dk_callVi X v_Diary_has [.int x1] (c_Diary_has l g ad T n x1 S) 5 (oC_Diary g ad T S) rfl rfl m_Scene_101 rfl rfl ⟨rfl, rfl, Nat.le_of_ble_eq_true rfl, Nat.le_of_ble_eq_true rfl, Nat.le_refl _, Nat.le_refl _⟩ (Nat.le_of_ble_eq_true rfl) d_Scene_live_5 hF (fun r2 S1 hF => ?_)
  refine dk_if_eq (tgt := 30) X (by decide) d_Scene_live_8 hF (fun hF => ?_) (fun hF => ?_)
  · exact dk_retv hR hF d_Scene_live_30
  · refine dk_aload_n (k := 0) (i := 0) X 0 rfl rfl d_Scene_live_11 ?_
    refine dk_get X q_Scene 18 0 (by decide) (oC_Scene g ad T S1) rfl f_Scene_46 d_Scene_live_12 ?_
    refine dk_aload_n (k := 0) (i := 0) X 0 rfl rfl d_Scene_live_15 ?_
    refine dk_get X q_Scene 18 1 (by decide) (oC_Scene g ad T S1) rfl f_Scene_50 d_Scene_live_16 ?_
    refine dk_get X q_Diary 5 2 (by decide) (oC_Diary g ad T S1) rfl f_Scene_104 d_Scene_live_19 ?_
    refine dk_iload_n (k := 1) (i := 1) X 1 rfl rfl d_Scene_live_22 ?_
    refine dk_iald X 8 (aC_8 g ad T S1) d_Scene_live_23 hF (fun v3 hF => ?_)
    refine dk_callVi X v_Land_hasBeast [.int v3] (c_Land_hasBeast l g ad T n v3 S1) 1 (oC_Land g ad T S1) rfl rfl m_Scene_105 rfl rfl ⟨rfl, rfl, Nat.le_of_ble_eq_true rfl, Nat.le_of_ble_eq_true rfl, Nat.le_refl _, Nat.le_refl _⟩ (Nat.le_of_ble_eq_true rfl) d_Scene_live_24 hF (fun r5 S4 hF => ?_)
    refine dk_if_ne (tgt := 31) X (by decide) d_Scene_live_27 hF (fun hF => ?_) (fun hF => ?_)
    · refine dk_aload_n (k := 0) (i := 0) X 0 rfl rfl d_Scene_live_31 ?_
      refine dk_get X q_Scene 18 1 (by decide) (oC_Scene g ad T S4) rfl f_Scene_50 d_Scene_live_32 ?_
      refine dk_get X q_Diary 5 2 (by decide) (oC_Diary g ad T S4) rfl f_Scene_104 d_Scene_live_35 ?_
      refine dk_iload_n (k := 1) (i := 1) X 1 rfl rfl d_Scene_live_38 ?_
      refine dk_iald X 8 (aC_8 g ad T S4) d_Scene_live_39 hF (fun v6 hF => ?_)
      refine dk_istore_n (k := 2) (i := 2) (lv' := [(2, .int v6), (0, .ref (ad 18)), (1, .int x1)]) X rfl (by decide) rfl d_Scene_live_40 ?_
      refine dk_aload_n (k := 0) (i := 0) X 1 rfl rfl d_Scene_live_41 ?_
      refine dk_get X q_Scene 18 1 (by decide) (oC_Scene g ad T S4) rfl f_Scene_50 d_Scene_live_42 ?_
      refine dk_get X q_Diary 5 3 (by decide) (oC_Diary g ad T S4) rfl f_Scene_108 d_Scene_live_45 ?_
      refine dk_iload_n (k := 1) (i := 1) X 2 rfl rfl d_Scene_live_48 ?_
      refine dk_iald X 9 (aC_9 g ad T S4) d_Scene_live_49 hF (fun v7 hF => ?_)
      refine dk_istore_n (k := 3) (i := 3) (lv' := [(3, .int v7), (2, .int v6), (0, .ref (ad 18)), (1, .int x1)]) X rfl (by decide) rfl d_Scene_live_50 ?_
      refine dk_aload_n (k := 0) (i := 0) X 2 rfl rfl d_Scene_live_51 ?_
      refine dk_get X q_Scene 18 1 (by decide) (oC_Scene g ad T S4) rfl f_Scene_50 d_Scene_live_52 ?_
      refine dk_get X q_Diary 5 0 (by decide) (oC_Diary g ad T S4) rfl f_Scene_111 d_Scene_live_55 ?_
      refine dk_iload_n (k := 1) (i := 1) X 3 rfl rfl d_Scene_live_58 ?_
      refine dk_iald X 6 (aC_6 g ad T S4) d_Scene_live_59 hF (fun v8 hF => ?_)
      refine dk_istore (i := 4) (lv' := [(4, .int v8), (3, .int v7), (2, .int v6), (0, .ref (ad 18)), (1, .int x1)]) X (by decide) rfl d_Scene_live_60 ?_
      refine dk_aload_n (k := 0) (i := 0) X 3 rfl rfl d_Scene_live_62 ?_
      refine dk_get X q_Scene 18 1 (by decide) (oC_Scene g ad T S4) rfl f_Scene_50 d_Scene_live_63 ?_
      refine dk_get X q_Diary 5 4 (by decide) (oC_Diary g ad T S4) rfl f_Scene_114 d_Scene_live_66 ?_
      refine dk_iload_n (k := 1) (i := 1) X 4 rfl rfl d_Scene_live_69 ?_
      refine dk_iald X 10 (aC_10 g ad T S4) d_Scene_live_70 hF (fun v9 hF => ?_)
      refine dk_istore (i := 5) (lv' := [(5, .int v9), (4, .int v8), (3, .int v7), (2, .int v6), (0, .ref (ad 18)), (1, .int x1)]) X (by decide) rfl d_Scene_live_71 ?_
      refine dk_aload_n (k := 0) (i := 0) X 4 rfl rfl d_Scene_live_73 ?_
      refine dk_iload (i := 4) X 1 rfl d_Scene_live_74 ?_
      refine dk_puti X q_Scene 18 12 (by decide) (oC_Scene g ad T S4) f_Scene_75 rfl rfl (Nat.le_of_ble_eq_true rfl) (sC_Scene_now g ad T S4 _) d_Scene_live_76 hF (fun S10 hF => ?_)
      refine dk_aload_n (k := 0) (i := 0) X 4 rfl rfl d_Scene_live_79 ?_
      refine dk_get X q_Scene 18 1 (by decide) (oC_Scene g ad T S10) rfl f_Scene_50 d_Scene_live_80 ?_
      refine dk_get X q_Diary 5 1 (by decide) (oC_Diary g ad T S10) rfl f_Scene_117 d_Scene_live_83 ?_
      refine dk_iload_n (k := 1) (i := 1) X 5 rfl rfl d_Scene_live_86 ?_
      refine dk_iald X 7 (aC_7 g ad T S10) d_Scene_live_87 hF (fun v11 hF => ?_)
      refine dk_if hF (fun hc0 hF => ?_) (fun hc0 hF => ?_)
      · refine dk_tsIn (v := 0) (tgt := 144) X d_Scene_live_88 (by rw [hc0]; decide) (by decide) (by decide) rfl (by decide) ?_
        refine dk_aload_n (k := 0) (i := 0) X 4 rfl rfl d_Scene_live_144 ?_
        refine dk_iconst (v := 0) X (by decide) d_Scene_live_145 ?_
        refine dk_iload_n (k := 2) (i := 2) X 3 rfl rfl d_Scene_live_146 ?_
        refine dk_iload_n (k := 3) (i := 3) X 2 rfl rfl d_Scene_live_147 ?_
        refine dk_iload (i := 4) X 1 rfl d_Scene_live_148 ?_
        refine dk_iconst (v := 0) X (by decide) d_Scene_live_150 ?_
        refine dk_callVv X v_Scene_makeOfLiving [.int (0 : Int32), .int v6, .int v7, .int v8, .int (0 : Int32)] (c_Scene_makeOfLiving l g ad T n (0 : Int32) v6 v7 v8 (0 : Int32) S10) 18 (oC_Scene g ad T S10) rfl rfl m_Scene_120 rfl rfl ⟨rfl, rfl, Nat.le_of_ble_eq_true rfl, Nat.le_of_ble_eq_true rfl, Nat.le_refl _, Nat.le_refl _⟩ (Nat.le_of_ble_eq_true rfl) d_Scene_live_151 hF (fun S12 hF => ?_)
        refine dk_goto (tgt := 262) X (by decide) d_Scene_live_154 ?_
        exact dk_retv hR hF d_Scene_live_262
      · refine dk_if hF (fun hc1 hF => ?_) (fun hc1 hF => ?_)
        · refine dk_tsIn (v := 1) (tgt := 157) X d_Scene_live_88 (by rw [hc1]; decide) (by decide) (by decide) rfl (by decide) ?_
          refine dk_aload_n (k := 0) (i := 0) X 4 rfl rfl d_Scene_live_157 ?_
          refine dk_iconst (v := 1) X (by decide) d_Scene_live_158 ?_
          refine dk_iload_n (k := 2) (i := 2) X 3 rfl rfl d_Scene_live_159 ?_
          refine dk_iload_n (k := 3) (i := 3) X 2 rfl rfl d_Scene_live_160 ?_
          refine dk_iload (i := 4) X 1 rfl d_Scene_live_161 ?_
          refine dk_iconst (v := 0) X (by decide) d_Scene_live_163 ?_
          refine dk_callVv X v_Scene_makeOfLiving [.int (1 : Int32), .int v6, .int v7, .int v8, .int (0 : Int32)] (c_Scene_makeOfLiving l g ad T n (1 : Int32) v6 v7 v8 (0 : Int32) S10) 18 (oC_Scene g ad T S10) rfl rfl m_Scene_120 rfl rfl ⟨rfl, rfl, Nat.le_of_ble_eq_true rfl, Nat.le_of_ble_eq_true rfl, Nat.le_refl _, Nat.le_refl _⟩ (Nat.le_of_ble_eq_true rfl) d_Scene_live_164 hF (fun S14 hF => ?_)
          refine dk_goto (tgt := 262) X (by decide) d_Scene_live_167 ?_
          exact dk_retv hR hF d_Scene_live_262
        · refine dk_if hF (fun hc2 hF => ?_) (fun hc2 hF => ?_)
          · refine dk_tsIn (v := 2) (tgt := 170) X d_Scene_live_88 (by rw [hc2]; decide) (by decide) (by decide) rfl (by decide) ?_
            refine dk_aload_n (k := 0) (i := 0) X 4 rfl rfl d_Scene_live_170 ?_
            refine dk_iconst (v := 2) X (by decide) d_Scene_live_171 ?_
            refine dk_iload_n (k := 2) (i := 2) X 3 rfl rfl d_Scene_live_172 ?_
            refine dk_iload_n (k := 3) (i := 3) X 2 rfl rfl d_Scene_live_173 ?_
            refine dk_iload (i := 4) X 1 rfl d_Scene_live_174 ?_
            refine dk_iload (i := 5) X 0 rfl d_Scene_live_176 ?_
            refine dk_callVv X v_Scene_makeOfLiving [.int (2 : Int32), .int v6, .int v7, .int v8, .int v9] (c_Scene_makeOfLiving l g ad T n (2 : Int32) v6 v7 v8 v9 S10) 18 (oC_Scene g ad T S10) rfl rfl m_Scene_120 rfl rfl ⟨rfl, rfl, Nat.le_of_ble_eq_true rfl, Nat.le_of_ble_eq_true rfl, Nat.le_refl _, Nat.le_refl _⟩ (Nat.le_of_ble_eq_true rfl) d_Scene_live_178 hF (fun S16 hF => ?_)
            refine dk_goto (tgt := 262) X (by decide) d_Scene_live_181 ?_
            exact dk_retv hR hF d_Scene_live_262
          · refine dk_if hF (fun hc3 hF => ?_) (fun hc3 hF => ?_)
            · refine dk_tsIn (v := 3) (tgt := 184) X d_Scene_live_88 (by rw [hc3]; decide) (by decide) (by decide) rfl (by decide) ?_
              refine dk_aload_n (k := 0) (i := 0) X 4 rfl rfl d_Scene_live_184 ?_
              refine dk_iconst (v := 3) X (by decide) d_Scene_live_185 ?_
              refine dk_iload_n (k := 2) (i := 2) X 3 rfl rfl d_Scene_live_186 ?_
              refine dk_iload_n (k := 3) (i := 3) X 2 rfl rfl d_Scene_live_187 ?_
              refine dk_iload (i := 4) X 1 rfl d_Scene_live_188 ?_
              refine dk_iconst (v := 0) X (by decide) d_Scene_live_190 ?_
              refine dk_callVv X v_Scene_make [.int (3 : Int32), .int v6, .int v7, .int v8, .int (0 : Int32)] (c_Scene_make l g ad T n (3 : Int32) v6 v7 v8 (0 : Int32) S10) 18 (oC_Scene g ad T S10) rfl rfl m_Scene_93 rfl rfl ⟨rfl, rfl, Nat.le_of_ble_eq_true rfl, Nat.le_of_ble_eq_true rfl, Nat.le_refl _, Nat.le_refl _⟩ (Nat.le_of_ble_eq_true rfl) d_Scene_live_191 hF (fun S18 hF => ?_)
              refine dk_goto (tgt := 262) X (by decide) d_Scene_live_194 ?_
              exact dk_retv hR hF d_Scene_live_262
            · refine dk_if hF (fun hc4 hF => ?_) (fun hc4 hF => ?_)
              · refine dk_tsIn (v := 4) (tgt := 210) X d_Scene_live_88 (by rw [hc4]; decide) (by decide) (by decide) rfl (by decide) ?_
                refine dk_aload_n (k := 0) (i := 0) X 4 rfl rfl d_Scene_live_210 ?_
                refine dk_iload_n (k := 2) (i := 2) X 3 rfl rfl d_Scene_live_211 ?_
                refine dk_iload_n (k := 3) (i := 3) X 2 rfl rfl d_Scene_live_212 ?_
                refine dk_iload (i := 4) X 1 rfl d_Scene_live_213 ?_
                refine dk_callVv X v_Scene_lose [.int v6, .int v7, .int v8] (c_Scene_lose l g ad T n v6 v7 v8 S10) 18 (oC_Scene g ad T S10) rfl rfl m_Scene_123 rfl rfl ⟨rfl, rfl, Nat.le_of_ble_eq_true rfl, Nat.le_of_ble_eq_true rfl, Nat.le_refl _, Nat.le_refl _⟩ (Nat.le_of_ble_eq_true rfl) d_Scene_live_215 hF (fun S20 hF => ?_)
                refine dk_goto (tgt := 262) X (by decide) d_Scene_live_218 ?_
                exact dk_retv hR hF d_Scene_live_262
              · refine dk_if hF (fun hc5 hF => ?_) (fun hc5 hF => ?_)
                · refine dk_tsIn (v := 5) (tgt := 221) X d_Scene_live_88 (by rw [hc5]; decide) (by decide) (by decide) rfl (by decide) ?_
                  refine dk_aload_n (k := 0) (i := 0) X 4 rfl rfl d_Scene_live_221 ?_
                  refine dk_iload_n (k := 2) (i := 2) X 3 rfl rfl d_Scene_live_222 ?_
                  refine dk_iload (i := 5) X 0 rfl d_Scene_live_223 ?_
                  refine dk_iload (i := 4) X 1 rfl d_Scene_live_225 ?_
                  refine dk_callVv X v_Scene_cross [.int v6, .int v9, .int v8] (c_Scene_cross l g ad T n v6 v9 v8 S10) 18 (oC_Scene g ad T S10) rfl rfl m_Scene_127 rfl rfl ⟨rfl, rfl, Nat.le_of_ble_eq_true rfl, Nat.le_of_ble_eq_true rfl, Nat.le_refl _, Nat.le_refl _⟩ (Nat.le_of_ble_eq_true rfl) d_Scene_live_227 hF (fun S22 hF => ?_)
                  refine dk_goto (tgt := 262) X (by decide) d_Scene_live_230 ?_
                  exact dk_retv hR hF d_Scene_live_262
                · refine dk_if hF (fun hc6 hF => ?_) (fun hc6 hF => ?_)
                  · refine dk_tsIn (v := 6) (tgt := 233) X d_Scene_live_88 (by rw [hc6]; decide) (by decide) (by decide) rfl (by decide) ?_
                    refine dk_aload_n (k := 0) (i := 0) X 4 rfl rfl d_Scene_live_233 ?_
                    refine dk_iload_n (k := 2) (i := 2) X 3 rfl rfl d_Scene_live_234 ?_
                    refine dk_iload_n (k := 3) (i := 3) X 2 rfl rfl d_Scene_live_235 ?_
                    refine dk_callVv X v_Scene_kill [.int v6, .int v7] (c_Scene_kill l g ad T n v6 v7 S10) 18 (oC_Scene g ad T S10) rfl rfl m_Scene_130 rfl rfl ⟨rfl, rfl, Nat.le_of_ble_eq_true rfl, Nat.le_of_ble_eq_true rfl, Nat.le_refl _, Nat.le_refl _⟩ (Nat.le_of_ble_eq_true rfl) d_Scene_live_236 hF (fun S24 hF => ?_)
                    refine dk_goto (tgt := 262) X (by decide) d_Scene_live_239 ?_
                    exact dk_retv hR hF d_Scene_live_262
                  · refine dk_if hF (fun hc7 hF => ?_) (fun hc7 hF => ?_)
                    · refine dk_tsIn (v := 7) (tgt := 197) X d_Scene_live_88 (by rw [hc7]; decide) (by decide) (by decide) rfl (by decide) ?_
                      refine dk_aload_n (k := 0) (i := 0) X 4 rfl rfl d_Scene_live_197 ?_
                      refine dk_iconst (v := 3) X (by decide) d_Scene_live_198 ?_
                      refine dk_iload_n (k := 2) (i := 2) X 3 rfl rfl d_Scene_live_199 ?_
                      refine dk_iload_n (k := 3) (i := 3) X 2 rfl rfl d_Scene_live_200 ?_
                      refine dk_iload (i := 4) X 1 rfl d_Scene_live_201 ?_
                      refine dk_iconst (v := 5) X (by decide) d_Scene_live_203 ?_
                      refine dk_callVv X v_Scene_make [.int (3 : Int32), .int v6, .int v7, .int v8, .int (5 : Int32)] (c_Scene_make l g ad T n (3 : Int32) v6 v7 v8 (5 : Int32) S10) 18 (oC_Scene g ad T S10) rfl rfl m_Scene_93 rfl rfl ⟨rfl, rfl, Nat.le_of_ble_eq_true rfl, Nat.le_of_ble_eq_true rfl, Nat.le_refl _, Nat.le_refl _⟩ (Nat.le_of_ble_eq_true rfl) d_Scene_live_204 hF (fun S26 hF => ?_)
                      refine dk_goto (tgt := 262) X (by decide) d_Scene_live_207 ?_
                      exact dk_retv hR hF d_Scene_live_262
                    · refine dk_if hF (fun hc8 hF => ?_) (fun hc8 hF => ?_)
                      · refine dk_tsIn (v := 8) (tgt := 242) X d_Scene_live_88 (by rw [hc8]; decide) (by decide) (by decide) rfl (by decide) ?_
                        refine dk_aload_n (k := 0) (i := 0) X 4 rfl rfl d_Scene_live_242 ?_
                        refine dk_iload_n (k := 2) (i := 2) X 3 rfl rfl d_Scene_live_243 ?_
                        refine dk_iload_n (k := 3) (i := 3) X 2 rfl rfl d_Scene_live_244 ?_
                        refine dk_callVv X v_Scene_letGo [.int v6, .int v7] (c_Scene_letGo l g ad T n v6 v7 S10) 18 (oC_Scene g ad T S10) rfl rfl m_Scene_133 rfl rfl ⟨rfl, rfl, Nat.le_of_ble_eq_true rfl, Nat.le_of_ble_eq_true rfl, Nat.le_refl _, Nat.le_refl _⟩ (Nat.le_of_ble_eq_true rfl) d_Scene_live_245 hF (fun S28 hF => ?_)
                        refine dk_goto (tgt := 262) X (by decide) d_Scene_live_248 ?_
                        exact dk_retv hR hF d_Scene_live_262
                      · refine dk_if hF (fun hc9 hF => ?_) (fun hc9 hF => ?_)
                        · refine dk_tsIn (v := 9) (tgt := 251) X d_Scene_live_88 (by rw [hc9]; decide) (by decide) (by decide) rfl (by decide) ?_
                          refine dk_aload_n (k := 0) (i := 0) X 4 rfl rfl d_Scene_live_251 ?_
                          refine dk_iload_n (k := 2) (i := 2) X 3 rfl rfl d_Scene_live_252 ?_
                          refine dk_iload_n (k := 3) (i := 3) X 2 rfl rfl d_Scene_live_253 ?_
                          refine dk_iload (i := 5) X 0 rfl d_Scene_live_254 ?_
                          refine dk_callVv X v_Scene_give [.int v6, .int v7, .int v9] (c_Scene_give l g ad T n v6 v7 v9 S10) 18 (oC_Scene g ad T S10) rfl rfl m_Scene_136 rfl rfl ⟨rfl, rfl, Nat.le_of_ble_eq_true rfl, Nat.le_of_ble_eq_true rfl, Nat.le_refl _, Nat.le_refl _⟩ (Nat.le_of_ble_eq_true rfl) d_Scene_live_256 hF (fun S30 hF => ?_)
                          refine dk_goto (tgt := 262) X (by decide) d_Scene_live_259 ?_
                          exact dk_retv hR hF d_Scene_live_262
                        · refine dk_tsOut (tgt := 262) X d_Scene_live_88 (by have e0 := lv_neT hc0 (a := 0) (by decide); have e1 := lv_neT hc1 (a := 1) (by decide); have e2 := lv_neT hc2 (a := 2) (by decide); have e3 := lv_neT hc3 (a := 3) (by decide); have e4 := lv_neT hc4 (a := 4) (by decide); have e5 := lv_neT hc5 (a := 5) (by decide); have e6 := lv_neT hc6 (a := 6) (by decide); have e7 := lv_neT hc7 (a := 7) (by decide); have e8 := lv_neT hc8 (a := 8) (by decide); have e9 := lv_neT hc9 (a := 9) (by decide); omega) (by decide) ?_
                          exact dk_retv hR hF d_Scene_live_262
    · exact dk_retv hR hF d_Scene_live_30
def F_Scene_live (n T : Nat) (x1 : Int32) (S : dk_S) : Option dk_S := B_Scene_live_0 n T x1 S
theorem c_Scene_live (l : Launch) (g : dk_G) (ad : Nat → Nat) (T n : Nat) (x1 : Int32)  (S : dk_S) : dk_Mv l g y_Scene_live b_Scene_live 6 rm_Scene_live (none) [.ref (ad 18), .int x1] (wC g ad T) S (F_Scene_live n T x1 S) := dk_enterv (by decide) rfl (Nat.le_of_ble_eq_true rfl) (fun p e s m args below meth c A Q res hF X hR => (kb_Scene_live_0 (n := n) X hR  hF))
abbrev b_Scene_reach : ByteArray := prog_7_method_3_code
def y_Scene_reach : MethodName := ⟨R_Scene, "reach", "(I)V"⟩
theorem d_Scene_reach_0 : decode b_Scene_reach 0 = .ok (.aload_n 0, 1) := by decide +kernel
theorem d_Scene_reach_1 : decode b_Scene_reach 1 = .ok (.invokevirtual 62, 3) := by decide +kernel
theorem d_Scene_reach_4 : decode b_Scene_reach 4 = .ok (.iconst 0, 1) := by decide +kernel
theorem d_Scene_reach_5 : decode b_Scene_reach 5 = .ok (.istore_n 2, 1) := by decide +kernel
theorem d_Scene_reach_6 : decode b_Scene_reach 6 = .ok (.iload_n 2, 1) := by decide +kernel
theorem d_Scene_reach_7 : decode b_Scene_reach 7 = .ok (.iload_n 1, 1) := by decide +kernel
theorem d_Scene_reach_8 : decode b_Scene_reach 8 = .ok (.if_icmp .ge 14, 3) := by decide +kernel
theorem d_Scene_reach_11 : decode b_Scene_reach 11 = .ok (.aload_n 0, 1) := by decide +kernel
theorem d_Scene_reach_12 : decode b_Scene_reach 12 = .ok (.iload_n 2, 1) := by decide +kernel
theorem d_Scene_reach_13 : decode b_Scene_reach 13 = .ok (.invokevirtual 65, 3) := by decide +kernel
theorem d_Scene_reach_16 : decode b_Scene_reach 16 = .ok (.iinc 2 1, 3) := by decide +kernel
theorem d_Scene_reach_19 : decode b_Scene_reach 19 = .ok (.goto (-13), 3) := by decide +kernel
theorem d_Scene_reach_22 : decode b_Scene_reach 22 = .ok (.return_, 1) := by decide +kernel
theorem v_Scene_reach : dk_Yv y_Scene_reach b_Scene_reach 3 (none) 1 := ⟨dk_in (List.mem_of_getElem? (i := 686) (by decide +kernel)) rfl, dk_in (List.mem_of_getElem? (i := 687) (by decide +kernel)) rfl, dk_in (List.mem_of_getElem? (i := 72) (by decide +kernel)) rfl, dk_in (List.mem_of_getElem? (i := 688) (by decide +kernel)) rfl, by decide +kernel, by decide +kernel, by decide +kernel⟩
abbrev rm_Scene_reach : Room := { frames := 4, cells := 0, slots := 0, locals := 96 }
theorem m_Scene_62 : Cond.methodLink R_Scene 62 y_Scene_begin ∈ dk_tb := dk_in (List.mem_of_getElem? (i := 689) (by decide +kernel)) rfl
theorem m_Scene_65 : Cond.methodLink R_Scene 65 y_Scene_live ∈ dk_tb := dk_in (List.mem_of_getElem? (i := 701) (by decide +kernel)) rfl
def B_Scene_reach_6b (n T : Nat) (k6 : Int32 → Int32 → dk_S → Option dk_S) (x1 : Int32) (x2 : Int32) (S : dk_S) : Option dk_S :=
  if x1 ≤ x2 then (some S) else (dk_cv (F_Scene_live n T x2 S) fun S1 => k6 x1 (x2 + (1 : Int32)) S1)
set_option maxRecDepth 20000 in
theorem kb_Scene_reach_6b {p : Program} {l : Launch} {e : Env} {s : State} {m : MethodId} {args : Array Value} {below : List Frame} {meth : Method} {c : Code} {g : dk_G} {A : Nat → Prop} {Q : State → Prop} {ad : Nat → Nat} {T : Nat} {n : Nat} {res : dk_S} (X : dk_X p s m args meth c b_Scene_reach 3 R_Scene (none) g A) (hR : dk_Rv p l e rm_Scene_reach s m args below meth c g A Q 3 b_Scene_reach (none) (wC g ad T) res) {k6 : Int32 → Int32 → dk_S → Option dk_S} (hk6 : ∀ (x1 : Int32) (x2 : Int32)  (S : dk_S), k6 x1 x2 S = some res → dk_J p l e rm_Scene_reach s m args below meth c g A Q 3 0 0 6 [(0, .ref (ad 18)), (1, .int x1), (2, .int x2)] [] (wC g ad T S)) {x1 : Int32} {x2 : Int32} {S : dk_S}  (hF : B_Scene_reach_6b n T k6 x1 x2 S = some res) : dk_J p l e rm_Scene_reach s m args below meth c g A Q 3 0 0 6 [(0, .ref (ad 18)), (1, .int x1), (2, .int x2)] [] (wC g ad T S) := by
  unfold B_Scene_reach_6b at hF
  refine dk_iload_n (k := 2) (i := 2) X 2 rfl rfl d_Scene_reach_6 ?_
  refine dk_iload_n (k := 1) (i := 1) X 1 rfl rfl d_Scene_reach_7 ?_
  refine dk_icmp_ge (tgt := 22) X (by decide) d_Scene_reach_8 hF (fun hF => ?_) (fun hF => ?_)
  · exact dk_retv hR hF d_Scene_reach_22
  · refine dk_aload_n (k := 0) (i := 0) X 0 rfl rfl d_Scene_reach_11 ?_
    refine dk_iload_n (k := 2) (i := 2) X 2 rfl rfl d_Scene_reach_12 ?_
    refine dk_callVv X v_Scene_live [.int x2] (c_Scene_live l g ad T n x2 S) 18 (oC_Scene g ad T S) rfl rfl m_Scene_65 rfl rfl ⟨rfl, rfl, Nat.le_of_ble_eq_true rfl, Nat.le_of_ble_eq_true rfl, Nat.le_refl _, Nat.le_refl _⟩ (Nat.le_of_ble_eq_true rfl) d_Scene_reach_13 hF (fun S1 hF => ?_)
    refine dk_iinc (i := 2) (v := (x2 + (1 : Int32))) (lv' := [(2, .int (x2 + (1 : Int32))), (0, .ref (ad 18)), (1, .int x1)]) X 2 rfl (dk_ii _ (by decide)) (by decide) rfl d_Scene_reach_16 ?_
    refine dk_goto (tgt := 6) X (by decide) d_Scene_reach_19 ?_
    exact dk_sub [1, 2, 0] rfl (hk6 x1 (x2 + (1 : Int32)) S1 hF)
def B_Scene_reach_6 (n T : Nat)  : Nat → Int32 → Int32 → dk_S → Option dk_S
  | 0 => fun _ _ _ => none
  | q + 1 => fun x1 x2 S => B_Scene_reach_6b n T (fun x1 x2 S => B_Scene_reach_6 n T  q x1 x2 S) x1 x2 S
theorem kb_Scene_reach_6 {p : Program} {l : Launch} {e : Env} {s : State} {m : MethodId} {args : Array Value} {below : List Frame} {meth : Method} {c : Code} {g : dk_G} {A : Nat → Prop} {Q : State → Prop} {ad : Nat → Nat} {T : Nat} {n : Nat} {res : dk_S} (X : dk_X p s m args meth c b_Scene_reach 3 R_Scene (none) g A) (hR : dk_Rv p l e rm_Scene_reach s m args below meth c g A Q 3 b_Scene_reach (none) (wC g ad T) res)  : ∀ (q : Nat) (x1 : Int32) (x2 : Int32)  (S : dk_S), B_Scene_reach_6 n T  q x1 x2 S = some res → dk_J p l e rm_Scene_reach s m args below meth c g A Q 3 0 0 6 [(0, .ref (ad 18)), (1, .int x1), (2, .int x2)] [] (wC g ad T S) := by
  intro q
  induction q with
  | zero => intro x1 x2  S hF; cases hF
  | succ q ih => intro x1 x2  S hF; exact kb_Scene_reach_6b (n := n) X hR ih  hF
def B_Scene_reach_0 (n T : Nat)  (x1 : Int32) (S : dk_S) : Option dk_S :=
  dk_cv (F_Scene_begin n T S) fun S3 => B_Scene_reach_6 n T  n x1 (0 : Int32) S3
set_option maxRecDepth 20000 in
theorem kb_Scene_reach_0 {p : Program} {l : Launch} {e : Env} {s : State} {m : MethodId} {args : Array Value} {below : List Frame} {meth : Method} {c : Code} {g : dk_G} {A : Nat → Prop} {Q : State → Prop} {ad : Nat → Nat} {T : Nat} {n : Nat} {res : dk_S} (X : dk_X p s m args meth c b_Scene_reach 3 R_Scene (none) g A) (hR : dk_Rv p l e rm_Scene_reach s m args below meth c g A Q 3 b_Scene_reach (none) (wC g ad T) res)  {x1 : Int32} {S : dk_S}  (hF : B_Scene_reach_0 n T  x1 S = some res) : dk_J p l e rm_Scene_reach s m args below meth c g A Q 3 0 0 0 [(0, .ref (ad 18)), (1, .int x1)] [] (wC g ad T S) := by
  unfold B_Scene_reach_0 at hF
  refine dk_aload_n (k := 0) (i := 0) X 0 rfl rfl d_Scene_reach_0 ?_
  refine dk_callVv X v_Scene_begin [] (c_Scene_begin l g ad T n S) 18 (oC_Scene g ad T S) rfl rfl m_Scene_62 rfl rfl ⟨rfl, rfl, Nat.le_of_ble_eq_true rfl, Nat.le_of_ble_eq_true rfl, Nat.le_refl _, Nat.le_refl _⟩ (Nat.le_of_ble_eq_true rfl) d_Scene_reach_1 hF (fun S3 hF => ?_)
  refine dk_iconst (v := 0) X (by decide) d_Scene_reach_4 ?_
  refine dk_istore_n (k := 2) (i := 2) (lv' := [(2, .int (0 : Int32)), (0, .ref (ad 18)), (1, .int x1)]) X rfl (by decide) rfl d_Scene_reach_5 ?_
  exact dk_sub [1, 2, 0] rfl (kb_Scene_reach_6 (n := n) X hR  n x1 (0 : Int32) S3 hF)
def F_Scene_reach (n T : Nat) (x1 : Int32) (S : dk_S) : Option dk_S := B_Scene_reach_0 n T x1 S
theorem c_Scene_reach (l : Launch) (g : dk_G) (ad : Nat → Nat) (T n : Nat) (x1 : Int32)  (S : dk_S) : dk_Mv l g y_Scene_reach b_Scene_reach 3 rm_Scene_reach (none) [.ref (ad 18), .int x1] (wC g ad T) S (F_Scene_reach n T x1 S) := dk_enterv (by decide) rfl (Nat.le_of_ble_eq_true rfl) (fun p e s m args below meth c A Q res hF X hR => (kb_Scene_reach_0 (n := n) X hR  hF))
abbrev b_Scene_has : ByteArray := prog_7_method_2_code
def y_Scene_has : MethodName := ⟨R_Scene, "has", "(I)Z"⟩
theorem d_Scene_has_0 : decode b_Scene_has 0 = .ok (.iload_n 1, 1) := by decide +kernel
theorem d_Scene_has_1 : decode b_Scene_has 1 = .ok (.ifCond .lt 15, 3) := by decide +kernel
theorem d_Scene_has_4 : decode b_Scene_has 4 = .ok (.iload_n 1, 1) := by decide +kernel
theorem d_Scene_has_5 : decode b_Scene_has 5 = .ok (.aload_n 0, 1) := by decide +kernel
theorem d_Scene_has_6 : decode b_Scene_has 6 = .ok (.getfield 58, 3) := by decide +kernel
theorem d_Scene_has_9 : decode b_Scene_has 9 = .ok (.if_icmp .ge 7, 3) := by decide +kernel
theorem d_Scene_has_12 : decode b_Scene_has 12 = .ok (.iconst 1, 1) := by decide +kernel
theorem d_Scene_has_13 : decode b_Scene_has 13 = .ok (.goto 4, 3) := by decide +kernel
theorem d_Scene_has_16 : decode b_Scene_has 16 = .ok (.iconst 0, 1) := by decide +kernel
theorem d_Scene_has_17 : decode b_Scene_has 17 = .ok (.ireturn, 1) := by decide +kernel
theorem v_Scene_has : dk_Yv y_Scene_has b_Scene_has 2 (some .boolean) 1 := ⟨dk_in (List.mem_of_getElem? (i := 744) (by decide +kernel)) rfl, dk_in (List.mem_of_getElem? (i := 745) (by decide +kernel)) rfl, dk_in (List.mem_of_getElem? (i := 72) (by decide +kernel)) rfl, dk_in (List.mem_of_getElem? (i := 746) (by decide +kernel)) rfl, by decide +kernel, by decide +kernel, by decide +kernel⟩
abbrev rm_Scene_has : Room := { frames := 0, cells := 0, slots := 0, locals := 0 }
def B_Scene_has_0 (n T : Nat)  (x1 : Int32) (S : dk_S) : Option (Int32 × dk_S) :=
  if x1 < 0 then (dk_b (0 : Int32) (some ((0 : Int32), S))) else (if (S 115 0) ≤ x1 then (dk_b (0 : Int32) (some ((0 : Int32), S))) else (dk_b (1 : Int32) (some ((1 : Int32), S))))
set_option maxRecDepth 20000 in
theorem kb_Scene_has_0 {p : Program} {l : Launch} {e : Env} {s : State} {m : MethodId} {args : Array Value} {below : List Frame} {meth : Method} {c : Code} {g : dk_G} {A : Nat → Prop} {Q : State → Prop} {ad : Nat → Nat} {T : Nat} {n : Nat} {res : (Int32 × dk_S)} (X : dk_X p s m args meth c b_Scene_has 2 R_Scene (some .boolean) g A) (hR : dk_Ri p l e rm_Scene_has s m args below meth c g A Q 2 b_Scene_has (some .boolean) (wC g ad T) res)  {x1 : Int32} {S : dk_S}  (hF : B_Scene_has_0 n T  x1 S = some res) : dk_J p l e rm_Scene_has s m args below meth c g A Q 2 0 0 0 [(0, .ref (ad 18)), (1, .int x1)] [] (wC g ad T S) := by
  unfold B_Scene_has_0 at hF
  refine dk_iload_n (k := 1) (i := 1) X 1 rfl rfl d_Scene_has_0 ?_
  refine dk_if_lt (tgt := 16) X (by decide) d_Scene_has_1 hF (fun hF => ?_) (fun hF => ?_)
  · refine dk_iconst (v := 0) X (by decide) d_Scene_has_16 ?_
    exact dk_retz hR hF d_Scene_has_17
  · refine dk_iload_n (k := 1) (i := 1) X 1 rfl rfl d_Scene_has_4 ?_
    refine dk_aload_n (k := 0) (i := 0) X 0 rfl rfl d_Scene_has_5 ?_
    refine dk_get X q_Scene 18 11 (by decide) (oC_Scene g ad T S) rfl f_Scene_58 d_Scene_has_6 ?_
    refine dk_icmp_ge (tgt := 16) X (by decide) d_Scene_has_9 hF (fun hF => ?_) (fun hF => ?_)
    · refine dk_iconst (v := 0) X (by decide) d_Scene_has_16 ?_
      exact dk_retz hR hF d_Scene_has_17
    · refine dk_iconst (v := 1) X (by decide) d_Scene_has_12 ?_
      refine dk_goto (tgt := 17) X (by decide) d_Scene_has_13 ?_
      exact dk_retz hR hF d_Scene_has_17
def F_Scene_has (n T : Nat) (x1 : Int32) (S : dk_S) : Option (Int32 × dk_S) := B_Scene_has_0 n T x1 S
theorem c_Scene_has (l : Launch) (g : dk_G) (ad : Nat → Nat) (T n : Nat) (x1 : Int32)  (S : dk_S) : dk_Mi l g y_Scene_has b_Scene_has 2 rm_Scene_has (some .boolean) [.ref (ad 18), .int x1] (wC g ad T) S (F_Scene_has n T x1 S) := dk_enteri (by decide) (Nat.le_of_ble_eq_true rfl) (fun p e s m args below meth c A Q res hF X hR => (kb_Scene_has_0 (n := n) X hR  hF))
abbrev b_Scene_isHeld : ByteArray := prog_7_method_21_code
def y_Scene_isHeld : MethodName := ⟨R_Scene, "isHeld", "(I)Z"⟩
theorem d_Scene_isHeld_0 : decode b_Scene_isHeld 0 = .ok (.iconst 0, 1) := by decide +kernel
theorem d_Scene_isHeld_1 : decode b_Scene_isHeld 1 = .ok (.istore_n 2, 1) := by decide +kernel
theorem d_Scene_isHeld_2 : decode b_Scene_isHeld 2 = .ok (.iload_n 2, 1) := by decide +kernel
theorem d_Scene_isHeld_3 : decode b_Scene_isHeld 3 = .ok (.aload_n 0, 1) := by decide +kernel
theorem d_Scene_isHeld_4 : decode b_Scene_isHeld 4 = .ok (.getfield 58, 3) := by decide +kernel
theorem d_Scene_isHeld_7 : decode b_Scene_isHeld 7 = .ok (.if_icmp .ge 29, 3) := by decide +kernel
theorem d_Scene_isHeld_10 : decode b_Scene_isHeld 10 = .ok (.aload_n 0, 1) := by decide +kernel
theorem d_Scene_isHeld_11 : decode b_Scene_isHeld 11 = .ok (.iload_n 2, 1) := by decide +kernel
theorem d_Scene_isHeld_12 : decode b_Scene_isHeld 12 = .ok (.iload_n 1, 1) := by decide +kernel
theorem d_Scene_isHeld_13 : decode b_Scene_isHeld 13 = .ok (.invokevirtual 146, 3) := by decide +kernel
theorem d_Scene_isHeld_16 : decode b_Scene_isHeld 16 = .ok (.ifCond .eq 14, 3) := by decide +kernel
theorem d_Scene_isHeld_19 : decode b_Scene_isHeld 19 = .ok (.aload_n 0, 1) := by decide +kernel
theorem d_Scene_isHeld_20 : decode b_Scene_isHeld 20 = .ok (.getfield 33, 3) := by decide +kernel
theorem d_Scene_isHeld_23 : decode b_Scene_isHeld 23 = .ok (.iload_n 2, 1) := by decide +kernel
theorem d_Scene_isHeld_24 : decode b_Scene_isHeld 24 = .ok (.baload, 1) := by decide +kernel
theorem d_Scene_isHeld_25 : decode b_Scene_isHeld 25 = .ok (.ifCond .ne 5, 3) := by decide +kernel
theorem d_Scene_isHeld_28 : decode b_Scene_isHeld 28 = .ok (.iconst 1, 1) := by decide +kernel
theorem d_Scene_isHeld_29 : decode b_Scene_isHeld 29 = .ok (.ireturn, 1) := by decide +kernel
theorem d_Scene_isHeld_30 : decode b_Scene_isHeld 30 = .ok (.iinc 2 1, 3) := by decide +kernel
theorem d_Scene_isHeld_33 : decode b_Scene_isHeld 33 = .ok (.goto (-31), 3) := by decide +kernel
theorem d_Scene_isHeld_36 : decode b_Scene_isHeld 36 = .ok (.iconst 0, 1) := by decide +kernel
theorem d_Scene_isHeld_37 : decode b_Scene_isHeld 37 = .ok (.ireturn, 1) := by decide +kernel
theorem v_Scene_isHeld : dk_Yv y_Scene_isHeld b_Scene_isHeld 3 (some .boolean) 1 := ⟨dk_in (List.mem_of_getElem? (i := 762) (by decide +kernel)) rfl, dk_in (List.mem_of_getElem? (i := 29) (by decide +kernel)) rfl, dk_in (List.mem_of_getElem? (i := 72) (by decide +kernel)) rfl, dk_in (List.mem_of_getElem? (i := 763) (by decide +kernel)) rfl, by decide +kernel, by decide +kernel, by decide +kernel⟩
abbrev rm_Scene_isHeld : Room := { frames := 1, cells := 0, slots := 0, locals := 22 }
def B_Scene_isHeld_30 (n T : Nat) (k2 : Int32 → Int32 → dk_S → Option (Int32 × dk_S)) (x1 : Int32) (x2 : Int32) (S : dk_S) : Option (Int32 × dk_S) :=
  k2 x1 (x2 + (1 : Int32)) S
set_option maxRecDepth 20000 in
theorem kb_Scene_isHeld_30 {p : Program} {l : Launch} {e : Env} {s : State} {m : MethodId} {args : Array Value} {below : List Frame} {meth : Method} {c : Code} {g : dk_G} {A : Nat → Prop} {Q : State → Prop} {ad : Nat → Nat} {T : Nat} {n : Nat} {res : (Int32 × dk_S)} (X : dk_X p s m args meth c b_Scene_isHeld 3 R_Scene (some .boolean) g A) (hR : dk_Ri p l e rm_Scene_isHeld s m args below meth c g A Q 3 b_Scene_isHeld (some .boolean) (wC g ad T) res) {k2 : Int32 → Int32 → dk_S → Option (Int32 × dk_S)} (hk2 : ∀ (x1 : Int32) (x2 : Int32)  (S : dk_S), k2 x1 x2 S = some res → dk_J p l e rm_Scene_isHeld s m args below meth c g A Q 3 0 0 2 [(0, .ref (ad 18)), (1, .int x1), (2, .int x2)] [] (wC g ad T S)) {x1 : Int32} {x2 : Int32} {S : dk_S}  (hF : B_Scene_isHeld_30 n T k2 x1 x2 S = some res) : dk_J p l e rm_Scene_isHeld s m args below meth c g A Q 3 0 0 30 [(0, .ref (ad 18)), (1, .int x1), (2, .int x2)] [] (wC g ad T S) := by
  unfold B_Scene_isHeld_30 at hF
  refine dk_iinc (i := 2) (v := (x2 + (1 : Int32))) (lv' := [(2, .int (x2 + (1 : Int32))), (0, .ref (ad 18)), (1, .int x1)]) X 2 rfl (dk_ii _ (by decide)) (by decide) rfl d_Scene_isHeld_30 ?_
  refine dk_goto (tgt := 2) X (by decide) d_Scene_isHeld_33 ?_
  exact dk_sub [1, 2, 0] rfl (hk2 x1 (x2 + (1 : Int32)) S hF)
def B_Scene_isHeld_2b (n T : Nat) (k2 : Int32 → Int32 → dk_S → Option (Int32 × dk_S)) (x1 : Int32) (x2 : Int32) (S : dk_S) : Option (Int32 × dk_S) :=
  if (S 115 0) ≤ x2 then (dk_b (0 : Int32) (some ((0 : Int32), S))) else (dk_c (F_Scene_isHoldOf n T x2 x1 S) fun r2 S1 => if r2 = 0 then (B_Scene_isHeld_30 n T k2 x1 x2 S1) else (dk_r 44 (S1 26) x2 fun v3 => if ¬ v3 = 0 then (B_Scene_isHeld_30 n T k2 x1 x2 S1) else (dk_b (1 : Int32) (some ((1 : Int32), S1)))))
set_option maxRecDepth 20000 in
theorem kb_Scene_isHeld_2b {p : Program} {l : Launch} {e : Env} {s : State} {m : MethodId} {args : Array Value} {below : List Frame} {meth : Method} {c : Code} {g : dk_G} {A : Nat → Prop} {Q : State → Prop} {ad : Nat → Nat} {T : Nat} {n : Nat} {res : (Int32 × dk_S)} (X : dk_X p s m args meth c b_Scene_isHeld 3 R_Scene (some .boolean) g A) (hR : dk_Ri p l e rm_Scene_isHeld s m args below meth c g A Q 3 b_Scene_isHeld (some .boolean) (wC g ad T) res) {k2 : Int32 → Int32 → dk_S → Option (Int32 × dk_S)} (hk2 : ∀ (x1 : Int32) (x2 : Int32)  (S : dk_S), k2 x1 x2 S = some res → dk_J p l e rm_Scene_isHeld s m args below meth c g A Q 3 0 0 2 [(0, .ref (ad 18)), (1, .int x1), (2, .int x2)] [] (wC g ad T S)) {x1 : Int32} {x2 : Int32} {S : dk_S}  (hF : B_Scene_isHeld_2b n T k2 x1 x2 S = some res) : dk_J p l e rm_Scene_isHeld s m args below meth c g A Q 3 0 0 2 [(0, .ref (ad 18)), (1, .int x1), (2, .int x2)] [] (wC g ad T S) := by
  unfold B_Scene_isHeld_2b at hF
  refine dk_iload_n (k := 2) (i := 2) X 2 rfl rfl d_Scene_isHeld_2 ?_
  refine dk_aload_n (k := 0) (i := 0) X 0 rfl rfl d_Scene_isHeld_3 ?_
  refine dk_get X q_Scene 18 11 (by decide) (oC_Scene g ad T S) rfl f_Scene_58 d_Scene_isHeld_4 ?_
  refine dk_icmp_ge (tgt := 36) X (by decide) d_Scene_isHeld_7 hF (fun hF => ?_) (fun hF => ?_)
  · refine dk_iconst (v := 0) X (by decide) d_Scene_isHeld_36 ?_
    exact dk_retz hR hF d_Scene_isHeld_37
  · refine dk_aload_n (k := 0) (i := 0) X 0 rfl rfl d_Scene_isHeld_10 ?_
    refine dk_iload_n (k := 2) (i := 2) X 2 rfl rfl d_Scene_isHeld_11 ?_
    refine dk_iload_n (k := 1) (i := 1) X 1 rfl rfl d_Scene_isHeld_12 ?_
    refine dk_callVi X v_Scene_isHoldOf [.int x2, .int x1] (c_Scene_isHoldOf l g ad T n x2 x1 S) 18 (oC_Scene g ad T S) rfl rfl m_Scene_146 rfl rfl ⟨rfl, rfl, Nat.le_of_ble_eq_true rfl, Nat.le_of_ble_eq_true rfl, Nat.le_refl _, Nat.le_refl _⟩ (Nat.le_of_ble_eq_true rfl) d_Scene_isHeld_13 hF (fun r2 S1 hF => ?_)
    refine dk_if_eq (tgt := 30) X (by decide) d_Scene_isHeld_16 hF (fun hF => ?_) (fun hF => ?_)
    · exact (kb_Scene_isHeld_30 (n := n) X hR hk2  hF)
    · refine dk_aload_n (k := 0) (i := 0) X 0 rfl rfl d_Scene_isHeld_19 ?_
      refine dk_get X q_Scene 18 10 (by decide) (oC_Scene g ad T S1) rfl f_Scene_33 d_Scene_isHeld_20 ?_
      refine dk_iload_n (k := 2) (i := 2) X 2 rfl rfl d_Scene_isHeld_23 ?_
      refine dk_zald X 26 (aC_26 g ad T S1) d_Scene_isHeld_24 hF (fun v3 hF => ?_)
      refine dk_if_ne (tgt := 30) X (by decide) d_Scene_isHeld_25 hF (fun hF => ?_) (fun hF => ?_)
      · exact (kb_Scene_isHeld_30 (n := n) X hR hk2  hF)
      · refine dk_iconst (v := 1) X (by decide) d_Scene_isHeld_28 ?_
        exact dk_retz hR hF d_Scene_isHeld_29
def B_Scene_isHeld_2 (n T : Nat)  : Nat → Int32 → Int32 → dk_S → Option (Int32 × dk_S)
  | 0 => fun _ _ _ => none
  | q + 1 => fun x1 x2 S => B_Scene_isHeld_2b n T (fun x1 x2 S => B_Scene_isHeld_2 n T  q x1 x2 S) x1 x2 S
theorem kb_Scene_isHeld_2 {p : Program} {l : Launch} {e : Env} {s : State} {m : MethodId} {args : Array Value} {below : List Frame} {meth : Method} {c : Code} {g : dk_G} {A : Nat → Prop} {Q : State → Prop} {ad : Nat → Nat} {T : Nat} {n : Nat} {res : (Int32 × dk_S)} (X : dk_X p s m args meth c b_Scene_isHeld 3 R_Scene (some .boolean) g A) (hR : dk_Ri p l e rm_Scene_isHeld s m args below meth c g A Q 3 b_Scene_isHeld (some .boolean) (wC g ad T) res)  : ∀ (q : Nat) (x1 : Int32) (x2 : Int32)  (S : dk_S), B_Scene_isHeld_2 n T  q x1 x2 S = some res → dk_J p l e rm_Scene_isHeld s m args below meth c g A Q 3 0 0 2 [(0, .ref (ad 18)), (1, .int x1), (2, .int x2)] [] (wC g ad T S) := by
  intro q
  induction q with
  | zero => intro x1 x2  S hF; cases hF
  | succ q ih => intro x1 x2  S hF; exact kb_Scene_isHeld_2b (n := n) X hR ih  hF
def B_Scene_isHeld_0 (n T : Nat)  (x1 : Int32) (S : dk_S) : Option (Int32 × dk_S) :=
  B_Scene_isHeld_2 n T  n x1 (0 : Int32) S
set_option maxRecDepth 20000 in
theorem kb_Scene_isHeld_0 {p : Program} {l : Launch} {e : Env} {s : State} {m : MethodId} {args : Array Value} {below : List Frame} {meth : Method} {c : Code} {g : dk_G} {A : Nat → Prop} {Q : State → Prop} {ad : Nat → Nat} {T : Nat} {n : Nat} {res : (Int32 × dk_S)} (X : dk_X p s m args meth c b_Scene_isHeld 3 R_Scene (some .boolean) g A) (hR : dk_Ri p l e rm_Scene_isHeld s m args below meth c g A Q 3 b_Scene_isHeld (some .boolean) (wC g ad T) res)  {x1 : Int32} {S : dk_S}  (hF : B_Scene_isHeld_0 n T  x1 S = some res) : dk_J p l e rm_Scene_isHeld s m args below meth c g A Q 3 0 0 0 [(0, .ref (ad 18)), (1, .int x1)] [] (wC g ad T S) := by
  unfold B_Scene_isHeld_0 at hF
  refine dk_iconst (v := 0) X (by decide) d_Scene_isHeld_0 ?_
  refine dk_istore_n (k := 2) (i := 2) (lv' := [(2, .int (0 : Int32)), (0, .ref (ad 18)), (1, .int x1)]) X rfl (by decide) rfl d_Scene_isHeld_1 ?_
  exact dk_sub [1, 2, 0] rfl (kb_Scene_isHeld_2 (n := n) X hR  n x1 (0 : Int32) S hF)
def F_Scene_isHeld (n T : Nat) (x1 : Int32) (S : dk_S) : Option (Int32 × dk_S) := B_Scene_isHeld_0 n T x1 S
theorem c_Scene_isHeld (l : Launch) (g : dk_G) (ad : Nat → Nat) (T n : Nat) (x1 : Int32)  (S : dk_S) : dk_Mi l g y_Scene_isHeld b_Scene_isHeld 3 rm_Scene_isHeld (some .boolean) [.ref (ad 18), .int x1] (wC g ad T) S (F_Scene_isHeld n T x1 S) := dk_enteri (by decide) (Nat.le_of_ble_eq_true rfl) (fun p e s m args below meth c A Q res hF X hR => (kb_Scene_isHeld_0 (n := n) X hR  hF))
abbrev b_Scene_isLostForLong : ByteArray := prog_7_method_19_code
def y_Scene_isLostForLong : MethodName := ⟨R_Scene, "isLostForLong", "(I)Z"⟩
theorem d_Scene_isLostForLong_0 : decode b_Scene_isLostForLong 0 = .ok (.aload_n 0, 1) := by decide +kernel
theorem d_Scene_isLostForLong_1 : decode b_Scene_isLostForLong 1 = .ok (.getfield 30, 3) := by decide +kernel
theorem d_Scene_isLostForLong_4 : decode b_Scene_isLostForLong 4 = .ok (.iload_n 1, 1) := by decide +kernel
theorem d_Scene_isLostForLong_5 : decode b_Scene_isLostForLong 5 = .ok (.iaload, 1) := by decide +kernel
theorem d_Scene_isLostForLong_6 : decode b_Scene_isLostForLong 6 = .ok (.iconst (-1), 1) := by decide +kernel
theorem d_Scene_isLostForLong_7 : decode b_Scene_isLostForLong 7 = .ok (.if_icmp .eq 27, 3) := by decide +kernel
theorem d_Scene_isLostForLong_10 : decode b_Scene_isLostForLong 10 = .ok (.aload_n 0, 1) := by decide +kernel
theorem d_Scene_isLostForLong_11 : decode b_Scene_isLostForLong 11 = .ok (.getfield 75, 3) := by decide +kernel
theorem d_Scene_isLostForLong_14 : decode b_Scene_isLostForLong 14 = .ok (.aload_n 0, 1) := by decide +kernel
theorem d_Scene_isLostForLong_15 : decode b_Scene_isLostForLong 15 = .ok (.getfield 30, 3) := by decide +kernel
theorem d_Scene_isLostForLong_18 : decode b_Scene_isLostForLong 18 = .ok (.iload_n 1, 1) := by decide +kernel
theorem d_Scene_isLostForLong_19 : decode b_Scene_isLostForLong 19 = .ok (.iaload, 1) := by decide +kernel
theorem d_Scene_isLostForLong_20 : decode b_Scene_isLostForLong 20 = .ok (.isub, 1) := by decide +kernel
theorem d_Scene_isLostForLong_21 : decode b_Scene_isLostForLong 21 = .ok (.aload_n 0, 1) := by decide +kernel
theorem d_Scene_isLostForLong_22 : decode b_Scene_isLostForLong 22 = .ok (.getfield 24, 3) := by decide +kernel
theorem d_Scene_isLostForLong_25 : decode b_Scene_isLostForLong 25 = .ok (.iload_n 1, 1) := by decide +kernel
theorem d_Scene_isLostForLong_26 : decode b_Scene_isLostForLong 26 = .ok (.iaload, 1) := by decide +kernel
theorem d_Scene_isLostForLong_27 : decode b_Scene_isLostForLong 27 = .ok (.if_icmp .le 7, 3) := by decide +kernel
theorem d_Scene_isLostForLong_30 : decode b_Scene_isLostForLong 30 = .ok (.iconst 1, 1) := by decide +kernel
theorem d_Scene_isLostForLong_31 : decode b_Scene_isLostForLong 31 = .ok (.goto 4, 3) := by decide +kernel
theorem d_Scene_isLostForLong_34 : decode b_Scene_isLostForLong 34 = .ok (.iconst 0, 1) := by decide +kernel
theorem d_Scene_isLostForLong_35 : decode b_Scene_isLostForLong 35 = .ok (.ireturn, 1) := by decide +kernel
theorem v_Scene_isLostForLong : dk_Yv y_Scene_isLostForLong b_Scene_isLostForLong 2 (some .boolean) 1 := ⟨dk_in (List.mem_of_getElem? (i := 754) (by decide +kernel)) rfl, dk_in (List.mem_of_getElem? (i := 27) (by decide +kernel)) rfl, dk_in (List.mem_of_getElem? (i := 72) (by decide +kernel)) rfl, dk_in (List.mem_of_getElem? (i := 755) (by decide +kernel)) rfl, by decide +kernel, by decide +kernel, by decide +kernel⟩
abbrev rm_Scene_isLostForLong : Room := { frames := 0, cells := 0, slots := 0, locals := 0 }
def B_Scene_isLostForLong_0 (n T : Nat)  (x1 : Int32) (S : dk_S) : Option (Int32 × dk_S) :=
  dk_r 44 (S 25) x1 fun v1 => if v1 = (-1 : Int32) then (dk_b (0 : Int32) (some ((0 : Int32), S))) else (dk_r 44 (S 25) x1 fun v2 => dk_r 44 (S 23) x1 fun v3 => if ((S 116 0) - v2) ≤ v3 then (dk_b (0 : Int32) (some ((0 : Int32), S))) else (dk_b (1 : Int32) (some ((1 : Int32), S))))
set_option maxRecDepth 20000 in
theorem kb_Scene_isLostForLong_0 {p : Program} {l : Launch} {e : Env} {s : State} {m : MethodId} {args : Array Value} {below : List Frame} {meth : Method} {c : Code} {g : dk_G} {A : Nat → Prop} {Q : State → Prop} {ad : Nat → Nat} {T : Nat} {n : Nat} {res : (Int32 × dk_S)} (X : dk_X p s m args meth c b_Scene_isLostForLong 2 R_Scene (some .boolean) g A) (hR : dk_Ri p l e rm_Scene_isLostForLong s m args below meth c g A Q 2 b_Scene_isLostForLong (some .boolean) (wC g ad T) res)  {x1 : Int32} {S : dk_S}  (hF : B_Scene_isLostForLong_0 n T  x1 S = some res) : dk_J p l e rm_Scene_isLostForLong s m args below meth c g A Q 2 0 0 0 [(0, .ref (ad 18)), (1, .int x1)] [] (wC g ad T S) := by
  unfold B_Scene_isLostForLong_0 at hF
  refine dk_aload_n (k := 0) (i := 0) X 0 rfl rfl d_Scene_isLostForLong_0 ?_
  refine dk_get X q_Scene 18 9 (by decide) (oC_Scene g ad T S) rfl f_Scene_30 d_Scene_isLostForLong_1 ?_
  refine dk_iload_n (k := 1) (i := 1) X 1 rfl rfl d_Scene_isLostForLong_4 ?_
  refine dk_iald X 25 (aC_25 g ad T S) d_Scene_isLostForLong_5 hF (fun v1 hF => ?_)
  refine dk_iconst (v := -1) X (by decide) d_Scene_isLostForLong_6 ?_
  refine dk_icmp_eq (tgt := 34) X (by decide) d_Scene_isLostForLong_7 hF (fun hF => ?_) (fun hF => ?_)
  · refine dk_iconst (v := 0) X (by decide) d_Scene_isLostForLong_34 ?_
    exact dk_retz hR hF d_Scene_isLostForLong_35
  · refine dk_aload_n (k := 0) (i := 0) X 0 rfl rfl d_Scene_isLostForLong_10 ?_
    refine dk_get X q_Scene 18 12 (by decide) (oC_Scene g ad T S) rfl f_Scene_75 d_Scene_isLostForLong_11 ?_
    refine dk_aload_n (k := 0) (i := 0) X 0 rfl rfl d_Scene_isLostForLong_14 ?_
    refine dk_get X q_Scene 18 9 (by decide) (oC_Scene g ad T S) rfl f_Scene_30 d_Scene_isLostForLong_15 ?_
    refine dk_iload_n (k := 1) (i := 1) X 1 rfl rfl d_Scene_isLostForLong_18 ?_
    refine dk_iald X 25 (aC_25 g ad T S) d_Scene_isLostForLong_19 hF (fun v2 hF => ?_)
    refine dk_isub X d_Scene_isLostForLong_20 ?_
    refine dk_aload_n (k := 0) (i := 0) X 0 rfl rfl d_Scene_isLostForLong_21 ?_
    refine dk_get X q_Scene 18 7 (by decide) (oC_Scene g ad T S) rfl f_Scene_24 d_Scene_isLostForLong_22 ?_
    refine dk_iload_n (k := 1) (i := 1) X 1 rfl rfl d_Scene_isLostForLong_25 ?_
    refine dk_iald X 23 (aC_23 g ad T S) d_Scene_isLostForLong_26 hF (fun v3 hF => ?_)
    refine dk_icmp_le (tgt := 34) X (by decide) d_Scene_isLostForLong_27 hF (fun hF => ?_) (fun hF => ?_)
    · refine dk_iconst (v := 0) X (by decide) d_Scene_isLostForLong_34 ?_
      exact dk_retz hR hF d_Scene_isLostForLong_35
    · refine dk_iconst (v := 1) X (by decide) d_Scene_isLostForLong_30 ?_
      refine dk_goto (tgt := 35) X (by decide) d_Scene_isLostForLong_31 ?_
      exact dk_retz hR hF d_Scene_isLostForLong_35
def F_Scene_isLostForLong (n T : Nat) (x1 : Int32) (S : dk_S) : Option (Int32 × dk_S) := B_Scene_isLostForLong_0 n T x1 S
theorem c_Scene_isLostForLong (l : Launch) (g : dk_G) (ad : Nat → Nat) (T n : Nat) (x1 : Int32)  (S : dk_S) : dk_Mi l g y_Scene_isLostForLong b_Scene_isLostForLong 2 rm_Scene_isLostForLong (some .boolean) [.ref (ad 18), .int x1] (wC g ad T) S (F_Scene_isLostForLong n T x1 S) := dk_enteri (by decide) (Nat.le_of_ble_eq_true rfl) (fun p e s m args below meth c A Q res hF X hR => (kb_Scene_isLostForLong_0 (n := n) X hR  hF))
abbrev b_Scene_isOnItsPlace : ByteArray := prog_7_method_20_code
def y_Scene_isOnItsPlace : MethodName := ⟨R_Scene, "isOnItsPlace", "(I)Z"⟩
theorem d_Scene_isOnItsPlace_0 : decode b_Scene_isOnItsPlace 0 = .ok (.aload_n 0, 1) := by decide +kernel
theorem d_Scene_isOnItsPlace_1 : decode b_Scene_isOnItsPlace 1 = .ok (.getfield 37, 3) := by decide +kernel
theorem d_Scene_isOnItsPlace_4 : decode b_Scene_isOnItsPlace 4 = .ok (.aload_n 0, 1) := by decide +kernel
theorem d_Scene_isOnItsPlace_5 : decode b_Scene_isOnItsPlace 5 = .ok (.getfield 18, 3) := by decide +kernel
theorem d_Scene_isOnItsPlace_8 : decode b_Scene_isOnItsPlace 8 = .ok (.iload_n 1, 1) := by decide +kernel
theorem d_Scene_isOnItsPlace_9 : decode b_Scene_isOnItsPlace 9 = .ok (.iaload, 1) := by decide +kernel
theorem d_Scene_isOnItsPlace_10 : decode b_Scene_isOnItsPlace 10 = .ok (.iaload, 1) := by decide +kernel
theorem d_Scene_isOnItsPlace_11 : decode b_Scene_isOnItsPlace 11 = .ok (.aload_n 0, 1) := by decide +kernel
theorem d_Scene_isOnItsPlace_12 : decode b_Scene_isOnItsPlace 12 = .ok (.getfield 27, 3) := by decide +kernel
theorem d_Scene_isOnItsPlace_15 : decode b_Scene_isOnItsPlace 15 = .ok (.iload_n 1, 1) := by decide +kernel
theorem d_Scene_isOnItsPlace_16 : decode b_Scene_isOnItsPlace 16 = .ok (.iaload, 1) := by decide +kernel
theorem d_Scene_isOnItsPlace_17 : decode b_Scene_isOnItsPlace 17 = .ok (.if_icmp .ne 29, 3) := by decide +kernel
theorem d_Scene_isOnItsPlace_20 : decode b_Scene_isOnItsPlace 20 = .ok (.aload_n 0, 1) := by decide +kernel
theorem d_Scene_isOnItsPlace_21 : decode b_Scene_isOnItsPlace 21 = .ok (.getfield 46, 3) := by decide +kernel
theorem d_Scene_isOnItsPlace_24 : decode b_Scene_isOnItsPlace 24 = .ok (.aload_n 0, 1) := by decide +kernel
theorem d_Scene_isOnItsPlace_25 : decode b_Scene_isOnItsPlace 25 = .ok (.getfield 27, 3) := by decide +kernel
theorem d_Scene_isOnItsPlace_28 : decode b_Scene_isOnItsPlace 28 = .ok (.iload_n 1, 1) := by decide +kernel
theorem d_Scene_isOnItsPlace_29 : decode b_Scene_isOnItsPlace 29 = .ok (.iaload, 1) := by decide +kernel
theorem d_Scene_isOnItsPlace_30 : decode b_Scene_isOnItsPlace 30 = .ok (.invokevirtual 139, 3) := by decide +kernel
theorem d_Scene_isOnItsPlace_33 : decode b_Scene_isOnItsPlace 33 = .ok (.aload_n 0, 1) := by decide +kernel
theorem d_Scene_isOnItsPlace_34 : decode b_Scene_isOnItsPlace 34 = .ok (.getfield 15, 3) := by decide +kernel
theorem d_Scene_isOnItsPlace_37 : decode b_Scene_isOnItsPlace 37 = .ok (.iload_n 1, 1) := by decide +kernel
theorem d_Scene_isOnItsPlace_38 : decode b_Scene_isOnItsPlace 38 = .ok (.iaload, 1) := by decide +kernel
theorem d_Scene_isOnItsPlace_39 : decode b_Scene_isOnItsPlace 39 = .ok (.if_icmp .ne 7, 3) := by decide +kernel
theorem d_Scene_isOnItsPlace_42 : decode b_Scene_isOnItsPlace 42 = .ok (.iconst 1, 1) := by decide +kernel
theorem d_Scene_isOnItsPlace_43 : decode b_Scene_isOnItsPlace 43 = .ok (.goto 4, 3) := by decide +kernel
theorem d_Scene_isOnItsPlace_46 : decode b_Scene_isOnItsPlace 46 = .ok (.iconst 0, 1) := by decide +kernel
theorem d_Scene_isOnItsPlace_47 : decode b_Scene_isOnItsPlace 47 = .ok (.ireturn, 1) := by decide +kernel
theorem v_Scene_isOnItsPlace : dk_Yv y_Scene_isOnItsPlace b_Scene_isOnItsPlace 2 (some .boolean) 1 := ⟨dk_in (List.mem_of_getElem? (i := 758) (by decide +kernel)) rfl, dk_in (List.mem_of_getElem? (i := 28) (by decide +kernel)) rfl, dk_in (List.mem_of_getElem? (i := 72) (by decide +kernel)) rfl, dk_in (List.mem_of_getElem? (i := 759) (by decide +kernel)) rfl, by decide +kernel, by decide +kernel, by decide +kernel⟩
abbrev rm_Scene_isOnItsPlace : Room := { frames := 1, cells := 0, slots := 0, locals := 21 }
def B_Scene_isOnItsPlace_0 (n T : Nat)  (x1 : Int32) (S : dk_S) : Option (Int32 × dk_S) :=
  dk_r 44 (S 21) x1 fun v1 => dk_r 6 (S 27) v1 fun v2 => dk_r 44 (S 24) x1 fun v3 => if ¬ v2 = v3 then (dk_b (0 : Int32) (some ((0 : Int32), S))) else (dk_r 44 (S 24) x1 fun v4 => dk_c (F_Land_ownerOf n T v4 S) fun r6 S5 => dk_r 44 (S5 20) x1 fun v7 => if ¬ r6 = v7 then (dk_b (0 : Int32) (some ((0 : Int32), S5))) else (dk_b (1 : Int32) (some ((1 : Int32), S5))))
set_option maxRecDepth 20000 in
theorem kb_Scene_isOnItsPlace_0 {p : Program} {l : Launch} {e : Env} {s : State} {m : MethodId} {args : Array Value} {below : List Frame} {meth : Method} {c : Code} {g : dk_G} {A : Nat → Prop} {Q : State → Prop} {ad : Nat → Nat} {T : Nat} {n : Nat} {res : (Int32 × dk_S)} (X : dk_X p s m args meth c b_Scene_isOnItsPlace 2 R_Scene (some .boolean) g A) (hR : dk_Ri p l e rm_Scene_isOnItsPlace s m args below meth c g A Q 2 b_Scene_isOnItsPlace (some .boolean) (wC g ad T) res)  {x1 : Int32} {S : dk_S}  (hF : B_Scene_isOnItsPlace_0 n T  x1 S = some res) : dk_J p l e rm_Scene_isOnItsPlace s m args below meth c g A Q 2 0 0 0 [(0, .ref (ad 18)), (1, .int x1)] [] (wC g ad T S) := by
  unfold B_Scene_isOnItsPlace_0 at hF
  refine dk_aload_n (k := 0) (i := 0) X 0 rfl rfl d_Scene_isOnItsPlace_0 ?_
  refine dk_get X q_Scene 18 13 (by decide) (oC_Scene g ad T S) rfl f_Scene_37 d_Scene_isOnItsPlace_1 ?_
  refine dk_aload_n (k := 0) (i := 0) X 0 rfl rfl d_Scene_isOnItsPlace_4 ?_
  refine dk_get X q_Scene 18 5 (by decide) (oC_Scene g ad T S) rfl f_Scene_18 d_Scene_isOnItsPlace_5 ?_
  refine dk_iload_n (k := 1) (i := 1) X 1 rfl rfl d_Scene_isOnItsPlace_8 ?_
  refine dk_iald X 21 (aC_21 g ad T S) d_Scene_isOnItsPlace_9 hF (fun v1 hF => ?_)
  refine dk_iald X 27 (aC_27 g ad T S) d_Scene_isOnItsPlace_10 hF (fun v2 hF => ?_)
  refine dk_aload_n (k := 0) (i := 0) X 0 rfl rfl d_Scene_isOnItsPlace_11 ?_
  refine dk_get X q_Scene 18 8 (by decide) (oC_Scene g ad T S) rfl f_Scene_27 d_Scene_isOnItsPlace_12 ?_
  refine dk_iload_n (k := 1) (i := 1) X 1 rfl rfl d_Scene_isOnItsPlace_15 ?_
  refine dk_iald X 24 (aC_24 g ad T S) d_Scene_isOnItsPlace_16 hF (fun v3 hF => ?_)
  refine dk_icmp_ne (tgt := 46) X (by decide) d_Scene_isOnItsPlace_17 hF (fun hF => ?_) (fun hF => ?_)
  · refine dk_iconst (v := 0) X (by decide) d_Scene_isOnItsPlace_46 ?_
    exact dk_retz hR hF d_Scene_isOnItsPlace_47
  · refine dk_aload_n (k := 0) (i := 0) X 0 rfl rfl d_Scene_isOnItsPlace_20 ?_
    refine dk_get X q_Scene 18 0 (by decide) (oC_Scene g ad T S) rfl f_Scene_46 d_Scene_isOnItsPlace_21 ?_
    refine dk_aload_n (k := 0) (i := 0) X 0 rfl rfl d_Scene_isOnItsPlace_24 ?_
    refine dk_get X q_Scene 18 8 (by decide) (oC_Scene g ad T S) rfl f_Scene_27 d_Scene_isOnItsPlace_25 ?_
    refine dk_iload_n (k := 1) (i := 1) X 1 rfl rfl d_Scene_isOnItsPlace_28 ?_
    refine dk_iald X 24 (aC_24 g ad T S) d_Scene_isOnItsPlace_29 hF (fun v4 hF => ?_)
    refine dk_callVi X v_Land_ownerOf [.int v4] (c_Land_ownerOf l g ad T n v4 S) 1 (oC_Land g ad T S) rfl rfl m_Scene_139 rfl rfl ⟨rfl, rfl, Nat.le_of_ble_eq_true rfl, Nat.le_of_ble_eq_true rfl, Nat.le_refl _, Nat.le_refl _⟩ (Nat.le_of_ble_eq_true rfl) d_Scene_isOnItsPlace_30 hF (fun r6 S5 hF => ?_)
    refine dk_aload_n (k := 0) (i := 0) X 0 rfl rfl d_Scene_isOnItsPlace_33 ?_
    refine dk_get X q_Scene 18 4 (by decide) (oC_Scene g ad T S5) rfl f_Scene_15 d_Scene_isOnItsPlace_34 ?_
    refine dk_iload_n (k := 1) (i := 1) X 1 rfl rfl d_Scene_isOnItsPlace_37 ?_
    refine dk_iald X 20 (aC_20 g ad T S5) d_Scene_isOnItsPlace_38 hF (fun v7 hF => ?_)
    refine dk_icmp_ne (tgt := 46) X (by decide) d_Scene_isOnItsPlace_39 hF (fun hF => ?_) (fun hF => ?_)
    · refine dk_iconst (v := 0) X (by decide) d_Scene_isOnItsPlace_46 ?_
      exact dk_retz hR hF d_Scene_isOnItsPlace_47
    · refine dk_iconst (v := 1) X (by decide) d_Scene_isOnItsPlace_42 ?_
      refine dk_goto (tgt := 47) X (by decide) d_Scene_isOnItsPlace_43 ?_
      exact dk_retz hR hF d_Scene_isOnItsPlace_47
def F_Scene_isOnItsPlace (n T : Nat) (x1 : Int32) (S : dk_S) : Option (Int32 × dk_S) := B_Scene_isOnItsPlace_0 n T x1 S
theorem c_Scene_isOnItsPlace (l : Launch) (g : dk_G) (ad : Nat → Nat) (T n : Nat) (x1 : Int32)  (S : dk_S) : dk_Mi l g y_Scene_isOnItsPlace b_Scene_isOnItsPlace 2 rm_Scene_isOnItsPlace (some .boolean) [.ref (ad 18), .int x1] (wC g ad T) S (F_Scene_isOnItsPlace n T x1 S) := dk_enteri (by decide) (Nat.le_of_ble_eq_true rfl) (fun p e s m args below meth c A Q res hF X hR => (kb_Scene_isOnItsPlace_0 (n := n) X hR  hF))
