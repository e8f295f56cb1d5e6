abbrev b_Model_in : ByteArray := prog_11_method_4_code
def y_Model_in : MethodName := ⟨R_Model, "in", "(III)Z"⟩
theorem d_Model_in_0 : decode b_Model_in 0 = .ok (.iload_n 0, 1) := by decide +kernel
theorem d_Model_in_1 : decode b_Model_in 1 = .ok (.iload_n 1, 1) := by decide +kernel
theorem d_Model_in_2 : decode b_Model_in 2 = .ok (.if_icmp .lt 12, 3) := by decide +kernel
theorem d_Model_in_5 : decode b_Model_in 5 = .ok (.iload_n 0, 1) := by decide +kernel
theorem d_Model_in_6 : decode b_Model_in 6 = .ok (.iload_n 2, 1) := by decide +kernel
theorem d_Model_in_7 : decode b_Model_in 7 = .ok (.if_icmp .gt 7, 3) := by decide +kernel
theorem d_Model_in_10 : decode b_Model_in 10 = .ok (.iconst 1, 1) := by decide +kernel
theorem d_Model_in_11 : decode b_Model_in 11 = .ok (.goto 4, 3) := by decide +kernel
theorem d_Model_in_14 : decode b_Model_in 14 = .ok (.iconst 0, 1) := by decide +kernel
theorem d_Model_in_15 : decode b_Model_in 15 = .ok (.ireturn, 1) := by decide +kernel
theorem v_Model_in : dk_Ys y_Model_in b_Model_in 3 (some .boolean) 3 := ⟨dk_in (List.mem_of_getElem? (i := 1124) (by decide +kernel)) rfl, dk_in (List.mem_of_getElem? (i := 75) (by decide +kernel)) rfl, dk_in (List.mem_of_getElem? (i := 1125) (by decide +kernel)) rfl, by decide +kernel, by decide +kernel, by decide +kernel⟩
abbrev rm_Model_in : Room := { frames := 0, cells := 0, slots := 0, locals := 0 }
def B_Model_in_0 (n : Nat)  (x0 : Int32) (x1 : Int32) (x2 : Int32) (S : dk_S) : Option (Int32 × dk_S) :=
  if x0 < x1 then (dk_b (0 : Int32) (some ((0 : Int32), S))) else (if x2 < x0 then (dk_b (0 : Int32) (some ((0 : Int32), S))) else (dk_b (1 : Int32) (some ((1 : Int32), S))))
set_option maxRecDepth 20000 in
theorem kb_Model_in_0 {p : Program} {l : Launch} {e : Env} {s : State} {m : MethodId} {args : Array Value} {below : List Frame} {meth : Method} {c : Code} {g : dk_G} {A : Nat → Prop} {Q : State → Prop} {am : Nat → Nat} {n : Nat} {res : (Int32 × dk_S)} (X : dk_X p s m args meth c b_Model_in 3 R_Model (some .boolean) g A) (hR : dk_Ri p l e rm_Model_in s m args below meth c g A Q 3 b_Model_in (some .boolean) (wM g am) res)  {x0 : Int32} {x1 : Int32} {x2 : Int32} {S : dk_S}  (hF : B_Model_in_0 n  x0 x1 x2 S = some res) : dk_J p l e rm_Model_in s m args below meth c g A Q 3 0 0 0 [(0, .int x0), (1, .int x1), (2, .int x2)] [] (wM g am S) := by
  unfold B_Model_in_0 at hF
  refine dk_iload_n (k := 0) (i := 0) X 0 rfl rfl d_Model_in_0 ?_
  refine dk_iload_n (k := 1) (i := 1) X 1 rfl rfl d_Model_in_1 ?_
  refine dk_icmp_lt (tgt := 14) X (by decide) d_Model_in_2 hF (fun hF => ?_) (fun hF => ?_)
  · refine dk_iconst (v := 0) X (by decide) d_Model_in_14 ?_
    exact dk_retz hR hF d_Model_in_15
  · refine dk_iload_n (k := 0) (i := 0) X 0 rfl rfl d_Model_in_5 ?_
    refine dk_iload_n (k := 2) (i := 2) X 2 rfl rfl d_Model_in_6 ?_
    refine dk_icmp_gt (tgt := 14) X (by decide) d_Model_in_7 hF (fun hF => ?_) (fun hF => ?_)
    · refine dk_iconst (v := 0) X (by decide) d_Model_in_14 ?_
      exact dk_retz hR hF d_Model_in_15
    · refine dk_iconst (v := 1) X (by decide) d_Model_in_10 ?_
      refine dk_goto (tgt := 15) X (by decide) d_Model_in_11 ?_
      exact dk_retz hR hF d_Model_in_15
def F_Model_in (n : Nat) (x0 : Int32) (x1 : Int32) (x2 : Int32) (S : dk_S) : Option (Int32 × dk_S) := B_Model_in_0 n x0 x1 x2 S
theorem c_Model_in (l : Launch) (g : dk_G) (am : Nat → Nat) (n : Nat) (x0 : Int32) (x1 : Int32) (x2 : Int32)  (S : dk_S) : dk_Mi l g y_Model_in b_Model_in 3 rm_Model_in (some .boolean) [.int x0, .int x1, .int x2] (wM g am) S (F_Model_in n x0 x1 x2 S) := dk_enteri (by decide) (Nat.le_of_ble_eq_true rfl) (fun p e s m args below meth c A Q res hF X hR => (kb_Model_in_0 (n := n) X hR  hF))
abbrev b_Model_ground : ByteArray := prog_11_method_8_code
def y_Model_ground : MethodName := ⟨R_Model, "ground", "(I)I"⟩
theorem d_Model_ground_0 : decode b_Model_ground 0 = .ok (.iload_n 1, 1) := by decide +kernel
theorem d_Model_ground_1 : decode b_Model_ground 1 = .ok (.iconst (-1), 1) := by decide +kernel
theorem d_Model_ground_2 : decode b_Model_ground 2 = .ok (.bipush 9, 2) := by decide +kernel
theorem d_Model_ground_4 : decode b_Model_ground 4 = .ok (.invokestatic 144, 3) := by decide +kernel
theorem d_Model_ground_7 : decode b_Model_ground 7 = .ok (.ifCond .ne 6, 3) := by decide +kernel
theorem d_Model_ground_10 : decode b_Model_ground 10 = .ok (.bipush (-2), 2) := by decide +kernel
theorem d_Model_ground_12 : decode b_Model_ground 12 = .ok (.ireturn, 1) := by decide +kernel
theorem d_Model_ground_13 : decode b_Model_ground 13 = .ok (.aload_n 0, 1) := by decide +kernel
theorem d_Model_ground_14 : decode b_Model_ground 14 = .ok (.getfield 141, 3) := by decide +kernel
theorem d_Model_ground_17 : decode b_Model_ground 17 = .ok (.bipush 8, 2) := by decide +kernel
theorem d_Model_ground_19 : decode b_Model_ground 19 = .ok (.if_icmp .ne 6, 3) := by decide +kernel
theorem d_Model_ground_22 : decode b_Model_ground 22 = .ok (.bipush (-4), 2) := by decide +kernel
theorem d_Model_ground_24 : decode b_Model_ground 24 = .ok (.ireturn, 1) := by decide +kernel
theorem d_Model_ground_25 : decode b_Model_ground 25 = .ok (.aload_n 0, 1) := by decide +kernel
theorem d_Model_ground_26 : decode b_Model_ground 26 = .ok (.getfield 7, 3) := by decide +kernel
theorem d_Model_ground_29 : decode b_Model_ground 29 = .ok (.aload_n 0, 1) := by decide +kernel
theorem d_Model_ground_30 : decode b_Model_ground 30 = .ok (.getfield 141, 3) := by decide +kernel
theorem d_Model_ground_33 : decode b_Model_ground 33 = .ok (.iload_n 1, 1) := by decide +kernel
theorem d_Model_ground_34 : decode b_Model_ground 34 = .ok (.iastore, 1) := by decide +kernel
theorem d_Model_ground_35 : decode b_Model_ground 35 = .ok (.aload_n 0, 1) := by decide +kernel
theorem d_Model_ground_36 : decode b_Model_ground 36 = .ok (.dup, 1) := by decide +kernel
theorem d_Model_ground_37 : decode b_Model_ground 37 = .ok (.getfield 141, 3) := by decide +kernel
theorem d_Model_ground_40 : decode b_Model_ground 40 = .ok (.iconst 1, 1) := by decide +kernel
theorem d_Model_ground_41 : decode b_Model_ground 41 = .ok (.iadd, 1) := by decide +kernel
theorem d_Model_ground_42 : decode b_Model_ground 42 = .ok (.putfield 141, 3) := by decide +kernel
theorem d_Model_ground_45 : decode b_Model_ground 45 = .ok (.aload_n 0, 1) := by decide +kernel
theorem d_Model_ground_46 : decode b_Model_ground 46 = .ok (.getfield 141, 3) := by decide +kernel
theorem d_Model_ground_49 : decode b_Model_ground 49 = .ok (.iconst 1, 1) := by decide +kernel
theorem d_Model_ground_50 : decode b_Model_ground 50 = .ok (.isub, 1) := by decide +kernel
theorem d_Model_ground_51 : decode b_Model_ground 51 = .ok (.ireturn, 1) := by decide +kernel
theorem v_Model_ground : dk_Yv y_Model_ground b_Model_ground 2 (some .int) 1 := ⟨dk_in (List.mem_of_getElem? (i := 1120) (by decide +kernel)) rfl, dk_in (List.mem_of_getElem? (i := 1121) (by decide +kernel)) rfl, dk_in (List.mem_of_getElem? (i := 75) (by decide +kernel)) rfl, dk_in (List.mem_of_getElem? (i := 1122) (by decide +kernel)) rfl, by decide +kernel, by decide +kernel, by decide +kernel⟩
abbrev rm_Model_ground : Room := { frames := 1, cells := 0, slots := 0, locals := 22 }
theorem f_Model_141 : Cond.fieldLink R_Model 141 (T_Model 0).1 (T_Model 0).2.1 (T_Model 0).2.2.1 ∈ dk_tb := dk_in (List.mem_of_getElem? (i := 964) (by decide +kernel)) rfl
theorem f_Model_7 : Cond.fieldLink R_Model 7 (T_Model 1).1 (T_Model 1).2.1 (T_Model 1).2.2.1 ∈ dk_tb := dk_in (List.mem_of_getElem? (i := 965) (by decide +kernel)) rfl
theorem m_Model_144 : Cond.methodLink R_Model 144 y_Model_in ∈ dk_tb := dk_in (List.mem_of_getElem? (i := 1123) (by decide +kernel)) rfl
def B_Model_ground_0 (n : Nat)  (x1 : Int32) (S : dk_S) : Option (Int32 × dk_S) :=
  dk_c (F_Model_in n x1 (-1 : Int32) (9 : Int32) S) fun r2 S1 => if ¬ r2 = 0 then (if ¬ (S1 0 0) = (8 : Int32) then (dk_w S1 1 8 (S1 0 0) x1 fun S3 => dk_p S3 0 ((S3 0 0) + (1 : Int32)) fun S4 => some (((S4 0 0) - (1 : Int32)), S4)) else (some ((-4 : Int32), S1))) else (some ((-2 : Int32), S1))
set_option maxRecDepth 20000 in
theorem kb_Model_ground_0 {p : Program} {l : Launch} {e : Env} {s : State} {m : MethodId} {args : Array Value} {below : List Frame} {meth : Method} {c : Code} {g : dk_G} {A : Nat → Prop} {Q : State → Prop} {am : Nat → Nat} {n : Nat} {res : (Int32 × dk_S)} (X : dk_X p s m args meth c b_Model_ground 2 R_Model (some .int) g A) (hR : dk_Ri p l e rm_Model_ground s m args below meth c g A Q 2 b_Model_ground (some .int) (wM g am) res)  {x1 : Int32} {S : dk_S}  (hF : B_Model_ground_0 n  x1 S = some res) : dk_J p l e rm_Model_ground s m args below meth c g A Q 2 0 0 0 [(0, .ref (am 0)), (1, .int x1)] [] (wM g am S) := by
  unfold B_Model_ground_0 at hF
  refine dk_iload_n (k := 1) (i := 1) X 1 rfl rfl d_Model_ground_0 ?_
  refine dk_iconst (v := -1) X (by decide) d_Model_ground_1 ?_
  refine dk_bipush (v := 9) X (by decide) d_Model_ground_2 ?_
  refine dk_callSi X v_Model_in [.int x1, .int (-1 : Int32), .int (9 : Int32)] (c_Model_in l g am n x1 (-1 : Int32) (9 : Int32) S) m_Model_144 rfl rfl ⟨rfl, rfl, Nat.le_of_ble_eq_true rfl, Nat.le_of_ble_eq_true rfl, Nat.le_refl _, Nat.le_refl _⟩ (Nat.le_of_ble_eq_true rfl) d_Model_ground_4 hF (fun r2 S1 hF => ?_)
  refine dk_if_ne (tgt := 13) X (by decide) d_Model_ground_7 hF (fun hF => ?_) (fun hF => ?_)
  · refine dk_aload_n (k := 0) (i := 0) X 0 rfl rfl d_Model_ground_13 ?_
    refine dk_get X q_Model 0 0 (by decide) (oM_Model g am S1) rfl f_Model_141 d_Model_ground_14 ?_
    refine dk_bipush (v := 8) X (by decide) d_Model_ground_17 ?_
    refine dk_icmp_ne (tgt := 25) X (by decide) d_Model_ground_19 hF (fun hF => ?_) (fun hF => ?_)
    · refine dk_aload_n (k := 0) (i := 0) X 0 rfl rfl d_Model_ground_25 ?_
      refine dk_get X q_Model 0 1 (by decide) (oM_Model g am S1) rfl f_Model_7 d_Model_ground_26 ?_
      refine dk_aload_n (k := 0) (i := 0) X 0 rfl rfl d_Model_ground_29 ?_
      refine dk_get X q_Model 0 0 (by decide) (oM_Model g am S1) rfl f_Model_141 d_Model_ground_30 ?_
      refine dk_iload_n (k := 1) (i := 1) X 1 rfl rfl d_Model_ground_33 ?_
      refine dk_iast X 1 (aM_1 g am S1) (sM_1 g am S1 _ _) d_Model_ground_34 hF (fun S3 hF => ?_)
      refine dk_aload_n (k := 0) (i := 0) X 0 rfl rfl d_Model_ground_35 ?_
      refine dk_dup X rfl d_Model_ground_36 ?_
      refine dk_get X q_Model 0 0 (by decide) (oM_Model g am S3) rfl f_Model_141 d_Model_ground_37 ?_
      refine dk_iconst (v := 1) X (by decide) d_Model_ground_40 ?_
      refine dk_iadd X d_Model_ground_41 ?_
      refine dk_puti X q_Model 0 0 (by decide) (oM_Model g am S3) f_Model_141 rfl rfl (Nat.le_of_ble_eq_true rfl) (sM_Model_grounds g am S3 _) d_Model_ground_42 hF (fun S4 hF => ?_)
      refine dk_aload_n (k := 0) (i := 0) X 0 rfl rfl d_Model_ground_45 ?_
      refine dk_get X q_Model 0 0 (by decide) (oM_Model g am S4) rfl f_Model_141 d_Model_ground_46 ?_
      refine dk_iconst (v := 1) X (by decide) d_Model_ground_49 ?_
      refine dk_isub X d_Model_ground_50 ?_
      exact dk_reti hR hF d_Model_ground_51
    · refine dk_bipush (v := -4) X (by decide) d_Model_ground_22 ?_
      exact dk_reti hR hF d_Model_ground_24
  · refine dk_bipush (v := -2) X (by decide) d_Model_ground_10 ?_
    exact dk_reti hR hF d_Model_ground_12
def F_Model_ground (n : Nat) (x1 : Int32) (S : dk_S) : Option (Int32 × dk_S) := B_Model_ground_0 n x1 S
theorem c_Model_ground (l : Launch) (g : dk_G) (am : Nat → Nat) (n : Nat) (x1 : Int32)  (S : dk_S) : dk_Mi l g y_Model_ground b_Model_ground 2 rm_Model_ground (some .int) [.ref (am 0), .int x1] (wM g am) S (F_Model_ground n x1 S) := dk_enteri (by decide) (Nat.le_of_ble_eq_true rfl) (fun p e s m args below meth c A Q res hF X hR => (kb_Model_ground_0 (n := n) X hR  hF))
abbrev b_Model_isGround : ByteArray := prog_11_method_5_code
def y_Model_isGround : MethodName := ⟨R_Model, "isGround", "(I)Z"⟩
theorem d_Model_isGround_0 : decode b_Model_isGround 0 = .ok (.iload_n 1, 1) := by decide +kernel
theorem d_Model_isGround_1 : decode b_Model_isGround 1 = .ok (.iconst 0, 1) := by decide +kernel
theorem d_Model_isGround_2 : decode b_Model_isGround 2 = .ok (.aload_n 0, 1) := by decide +kernel
theorem d_Model_isGround_3 : decode b_Model_isGround 3 = .ok (.getfield 141, 3) := by decide +kernel
theorem d_Model_isGround_6 : decode b_Model_isGround 6 = .ok (.iconst 1, 1) := by decide +kernel
theorem d_Model_isGround_7 : decode b_Model_isGround 7 = .ok (.isub, 1) := by decide +kernel
theorem d_Model_isGround_8 : decode b_Model_isGround 8 = .ok (.invokestatic 144, 3) := by decide +kernel
theorem d_Model_isGround_11 : decode b_Model_isGround 11 = .ok (.ireturn, 1) := by decide +kernel
theorem v_Model_isGround : dk_Yv y_Model_isGround b_Model_isGround 2 (some .boolean) 1 := ⟨dk_in (List.mem_of_getElem? (i := 1132) (by decide +kernel)) rfl, dk_in (List.mem_of_getElem? (i := 33) (by decide +kernel)) rfl, dk_in (List.mem_of_getElem? (i := 75) (by decide +kernel)) rfl, dk_in (List.mem_of_getElem? (i := 1133) (by decide +kernel)) rfl, by decide +kernel, by decide +kernel, by decide +kernel⟩
abbrev rm_Model_isGround : Room := { frames := 1, cells := 0, slots := 0, locals := 22 }
def B_Model_isGround_0 (n : Nat)  (x1 : Int32) (S : dk_S) : Option (Int32 × dk_S) :=
  dk_c (F_Model_in n x1 (0 : Int32) ((S 0 0) - (1 : Int32)) S) fun r2 S1 => dk_b r2 (some (r2, S1))
set_option maxRecDepth 20000 in
theorem kb_Model_isGround_0 {p : Program} {l : Launch} {e : Env} {s : State} {m : MethodId} {args : Array Value} {below : List Frame} {meth : Method} {c : Code} {g : dk_G} {A : Nat → Prop} {Q : State → Prop} {am : Nat → Nat} {n : Nat} {res : (Int32 × dk_S)} (X : dk_X p s m args meth c b_Model_isGround 2 R_Model (some .boolean) g A) (hR : dk_Ri p l e rm_Model_isGround s m args below meth c g A Q 2 b_Model_isGround (some .boolean) (wM g am) res)  {x1 : Int32} {S : dk_S}  (hF : B_Model_isGround_0 n  x1 S = some res) : dk_J p l e rm_Model_isGround s m args below meth c g A Q 2 0 0 0 [(0, .ref (am 0)), (1, .int x1)] [] (wM g am S) := by
  unfold B_Model_isGround_0 at hF
  refine dk_iload_n (k := 1) (i := 1) X 1 rfl rfl d_Model_isGround_0 ?_
  refine dk_iconst (v := 0) X (by decide) d_Model_isGround_1 ?_
  refine dk_aload_n (k := 0) (i := 0) X 0 rfl rfl d_Model_isGround_2 ?_
  refine dk_get X q_Model 0 0 (by decide) (oM_Model g am S) rfl f_Model_141 d_Model_isGround_3 ?_
  refine dk_iconst (v := 1) X (by decide) d_Model_isGround_6 ?_
  refine dk_isub X d_Model_isGround_7 ?_
  refine dk_callSi X v_Model_in [.int x1, .int (0 : Int32), .int ((S 0 0) - (1 : Int32))] (c_Model_in l g am n x1 (0 : Int32) ((S 0 0) - (1 : Int32)) S) m_Model_144 rfl rfl ⟨rfl, rfl, Nat.le_of_ble_eq_true rfl, Nat.le_of_ble_eq_true rfl, Nat.le_refl _, Nat.le_refl _⟩ (Nat.le_of_ble_eq_true rfl) d_Model_isGround_8 hF (fun r2 S1 hF => ?_)
  exact dk_retz hR hF d_Model_isGround_11
def F_Model_isGround (n : Nat) (x1 : Int32) (S : dk_S) : Option (Int32 × dk_S) := B_Model_isGround_0 n x1 S
theorem c_Model_isGround (l : Launch) (g : dk_G) (am : Nat → Nat) (n : Nat) (x1 : Int32)  (S : dk_S) : dk_Mi l g y_Model_isGround b_Model_isGround 2 rm_Model_isGround (some .boolean) [.ref (am 0), .int x1] (wM g am) S (F_Model_isGround n x1 S) := dk_enteri (by decide) (Nat.le_of_ble_eq_true rfl) (fun p e s m args below meth c A Q res hF X hR => (kb_Model_isGround_0 (n := n) X hR  hF))
abbrev b_Model_owns : ByteArray := prog_11_method_9_code
def y_Model_owns : MethodName := ⟨R_Model, "owns", "(II)I"⟩
theorem d_Model_owns_0 : decode b_Model_owns 0 = .ok (.aload_n 0, 1) := by decide +kernel
theorem d_Model_owns_1 : decode b_Model_owns 1 = .ok (.iload_n 1, 1) := by decide +kernel
theorem d_Model_owns_2 : decode b_Model_owns 2 = .ok (.invokevirtual 154, 3) := by decide +kernel
theorem d_Model_owns_5 : decode b_Model_owns 5 = .ok (.ifCond .ne 6, 3) := by decide +kernel
theorem d_Model_owns_8 : decode b_Model_owns 8 = .ok (.bipush (-5), 2) := by decide +kernel
theorem d_Model_owns_10 : decode b_Model_owns 10 = .ok (.ireturn, 1) := by decide +kernel
theorem d_Model_owns_11 : decode b_Model_owns 11 = .ok (.iload_n 2, 1) := by decide +kernel
theorem d_Model_owns_12 : decode b_Model_owns 12 = .ok (.iconst (-1), 1) := by decide +kernel
theorem d_Model_owns_13 : decode b_Model_owns 13 = .ok (.bipush 9, 2) := by decide +kernel
theorem d_Model_owns_15 : decode b_Model_owns 15 = .ok (.invokestatic 144, 3) := by decide +kernel
theorem d_Model_owns_18 : decode b_Model_owns 18 = .ok (.ifCond .ne 6, 3) := by decide +kernel
theorem d_Model_owns_21 : decode b_Model_owns 21 = .ok (.bipush (-7), 2) := by decide +kernel
theorem d_Model_owns_23 : decode b_Model_owns 23 = .ok (.ireturn, 1) := by decide +kernel
theorem d_Model_owns_24 : decode b_Model_owns 24 = .ok (.aload_n 0, 1) := by decide +kernel
theorem d_Model_owns_25 : decode b_Model_owns 25 = .ok (.getfield 7, 3) := by decide +kernel
theorem d_Model_owns_28 : decode b_Model_owns 28 = .ok (.iload_n 1, 1) := by decide +kernel
theorem d_Model_owns_29 : decode b_Model_owns 29 = .ok (.iaload, 1) := by decide +kernel
theorem d_Model_owns_30 : decode b_Model_owns 30 = .ok (.istore_n 3, 1) := by decide +kernel
theorem d_Model_owns_31 : decode b_Model_owns 31 = .ok (.aload_n 0, 1) := by decide +kernel
theorem d_Model_owns_32 : decode b_Model_owns 32 = .ok (.getfield 7, 3) := by decide +kernel
theorem d_Model_owns_35 : decode b_Model_owns 35 = .ok (.iload_n 1, 1) := by decide +kernel
theorem d_Model_owns_36 : decode b_Model_owns 36 = .ok (.iload_n 2, 1) := by decide +kernel
theorem d_Model_owns_37 : decode b_Model_owns 37 = .ok (.iastore, 1) := by decide +kernel
theorem d_Model_owns_38 : decode b_Model_owns 38 = .ok (.iload_n 3, 1) := by decide +kernel
theorem d_Model_owns_39 : decode b_Model_owns 39 = .ok (.ireturn, 1) := by decide +kernel
theorem v_Model_owns : dk_Yv y_Model_owns b_Model_owns 4 (some .int) 2 := ⟨dk_in (List.mem_of_getElem? (i := 1127) (by decide +kernel)) rfl, dk_in (List.mem_of_getElem? (i := 1128) (by decide +kernel)) rfl, dk_in (List.mem_of_getElem? (i := 75) (by decide +kernel)) rfl, dk_in (List.mem_of_getElem? (i := 1129) (by decide +kernel)) rfl, by decide +kernel, by decide +kernel, by decide +kernel⟩
abbrev rm_Model_owns : Room := { frames := 2, cells := 0, slots := 0, locals := 43 }
theorem m_Model_154 : Cond.methodLink R_Model 154 y_Model_isGround ∈ dk_tb := dk_in (List.mem_of_getElem? (i := 1130) (by decide +kernel)) rfl
def B_Model_owns_0 (n : Nat)  (x1 : Int32) (x2 : Int32) (S : dk_S) : Option (Int32 × dk_S) :=
  dk_c (F_Model_isGround n x1 S) fun r2 S1 => if ¬ r2 = 0 then (dk_c (F_Model_in n x2 (-1 : Int32) (9 : Int32) S1) fun r4 S3 => if ¬ r4 = 0 then (dk_r 8 (S3 1) x1 fun v5 => dk_w S3 1 8 x1 x2 fun S6 => some (v5, S6)) else (some ((-7 : Int32), S3))) else (some ((-5 : Int32), S1))
set_option maxRecDepth 20000 in
theorem kb_Model_owns_0 {p : Program} {l : Launch} {e : Env} {s : State} {m : MethodId} {args : Array Value} {below : List Frame} {meth : Method} {c : Code} {g : dk_G} {A : Nat → Prop} {Q : State → Prop} {am : Nat → Nat} {n : Nat} {res : (Int32 × dk_S)} (X : dk_X p s m args meth c b_Model_owns 4 R_Model (some .int) g A) (hR : dk_Ri p l e rm_Model_owns s m args below meth c g A Q 4 b_Model_owns (some .int) (wM g am) res)  {x1 : Int32} {x2 : Int32} {S : dk_S}  (hF : B_Model_owns_0 n  x1 x2 S = some res) : dk_J p l e rm_Model_owns s m args below meth c g A Q 4 0 0 0 [(0, .ref (am 0)), (1, .int x1), (2, .int x2)] [] (wM g am S) := by
  unfold B_Model_owns_0 at hF
  refine dk_aload_n (k := 0) (i := 0) X 0 rfl rfl d_Model_owns_0 ?_
  refine dk_iload_n (k := 1) (i := 1) X 1 rfl rfl d_Model_owns_1 ?_
  refine dk_callVi X v_Model_isGround [.int x1] (c_Model_isGround l g am n x1 S) 0 (oM_Model g am S) rfl rfl m_Model_154 rfl rfl ⟨rfl, rfl, Nat.le_of_ble_eq_true rfl, Nat.le_of_ble_eq_true rfl, Nat.le_refl _, Nat.le_refl _⟩ (Nat.le_of_ble_eq_true rfl) d_Model_owns_2 hF (fun r2 S1 hF => ?_)
  refine dk_if_ne (tgt := 11) X (by decide) d_Model_owns_5 hF (fun hF => ?_) (fun hF => ?_)
  · refine dk_iload_n (k := 2) (i := 2) X 2 rfl rfl d_Model_owns_11 ?_
    refine dk_iconst (v := -1) X (by decide) d_Model_owns_12 ?_
    refine dk_bipush (v := 9) X (by decide) d_Model_owns_13 ?_
    refine dk_callSi X v_Model_in [.int x2, .int (-1 : Int32), .int (9 : Int32)] (c_Model_in l g am n x2 (-1 : Int32) (9 : Int32) S1) m_Model_144 rfl rfl ⟨rfl, rfl, Nat.le_of_ble_eq_true rfl, Nat.le_of_ble_eq_true rfl, Nat.le_refl _, Nat.le_refl _⟩ (Nat.le_of_ble_eq_true rfl) d_Model_owns_15 hF (fun r4 S3 hF => ?_)
    refine dk_if_ne (tgt := 24) X (by decide) d_Model_owns_18 hF (fun hF => ?_) (fun hF => ?_)
    · refine dk_aload_n (k := 0) (i := 0) X 0 rfl rfl d_Model_owns_24 ?_
      refine dk_get X q_Model 0 1 (by decide) (oM_Model g am S3) rfl f_Model_7 d_Model_owns_25 ?_
      refine dk_iload_n (k := 1) (i := 1) X 1 rfl rfl d_Model_owns_28 ?_
      refine dk_iald X 1 (aM_1 g am S3) d_Model_owns_29 hF (fun v5 hF => ?_)
      refine dk_istore_n (k := 3) (i := 3) (lv' := [(3, .int v5), (0, .ref (am 0)), (1, .int x1), (2, .int x2)]) X rfl (by decide) rfl d_Model_owns_30 ?_
      refine dk_aload_n (k := 0) (i := 0) X 1 rfl rfl d_Model_owns_31 ?_
      refine dk_get X q_Model 0 1 (by decide) (oM_Model g am S3) rfl f_Model_7 d_Model_owns_32 ?_
      refine dk_iload_n (k := 1) (i := 1) X 2 rfl rfl d_Model_owns_35 ?_
      refine dk_iload_n (k := 2) (i := 2) X 3 rfl rfl d_Model_owns_36 ?_
      refine dk_iast X 1 (aM_1 g am S3) (sM_1 g am S3 _ _) d_Model_owns_37 hF (fun S6 hF => ?_)
      refine dk_iload_n (k := 3) (i := 3) X 0 rfl rfl d_Model_owns_38 ?_
      exact dk_reti hR hF d_Model_owns_39
    · refine dk_bipush (v := -7) X (by decide) d_Model_owns_21 ?_
      exact dk_reti hR hF d_Model_owns_23
  · refine dk_bipush (v := -5) X (by decide) d_Model_owns_8 ?_
    exact dk_reti hR hF d_Model_owns_10
def F_Model_owns (n : Nat) (x1 : Int32) (x2 : Int32) (S : dk_S) : Option (Int32 × dk_S) := B_Model_owns_0 n x1 x2 S
theorem c_Model_owns (l : Launch) (g : dk_G) (am : Nat → Nat) (n : Nat) (x1 : Int32) (x2 : Int32)  (S : dk_S) : dk_Mi l g y_Model_owns b_Model_owns 4 rm_Model_owns (some .int) [.ref (am 0), .int x1, .int x2] (wM g am) S (F_Model_owns n x1 x2 S) := dk_enteri (by decide) (Nat.le_of_ble_eq_true rfl) (fun p e s m args below meth c A Q res hF X hR => (kb_Model_owns_0 (n := n) X hR  hF))
abbrev b_Model_beast : ByteArray := prog_11_method_10_code
def y_Model_beast : MethodName := ⟨R_Model, "beast", "(II)I"⟩
theorem d_Model_beast_0 : decode b_Model_beast 0 = .ok (.aload_n 0, 1) := by decide +kernel
theorem d_Model_beast_1 : decode b_Model_beast 1 = .ok (.iload_n 1, 1) := by decide +kernel
theorem d_Model_beast_2 : decode b_Model_beast 2 = .ok (.invokevirtual 154, 3) := by decide +kernel
theorem d_Model_beast_5 : decode b_Model_beast 5 = .ok (.ifCond .ne 5, 3) := by decide +kernel
theorem d_Model_beast_8 : decode b_Model_beast 8 = .ok (.iconst (-1), 1) := by decide +kernel
theorem d_Model_beast_9 : decode b_Model_beast 9 = .ok (.ireturn, 1) := by decide +kernel
theorem d_Model_beast_10 : decode b_Model_beast 10 = .ok (.iload_n 2, 1) := by decide +kernel
theorem d_Model_beast_11 : decode b_Model_beast 11 = .ok (.iconst (-1), 1) := by decide +kernel
theorem d_Model_beast_12 : decode b_Model_beast 12 = .ok (.bipush 9, 2) := by decide +kernel
theorem d_Model_beast_14 : decode b_Model_beast 14 = .ok (.invokestatic 144, 3) := by decide +kernel
theorem d_Model_beast_17 : decode b_Model_beast 17 = .ok (.ifCond .ne 6, 3) := by decide +kernel
theorem d_Model_beast_20 : decode b_Model_beast 20 = .ok (.bipush (-2), 2) := by decide +kernel
theorem d_Model_beast_22 : decode b_Model_beast 22 = .ok (.ireturn, 1) := by decide +kernel
theorem d_Model_beast_23 : decode b_Model_beast 23 = .ok (.aload_n 0, 1) := by decide +kernel
theorem d_Model_beast_24 : decode b_Model_beast 24 = .ok (.getfield 148, 3) := by decide +kernel
theorem d_Model_beast_27 : decode b_Model_beast 27 = .ok (.bipush 6, 2) := by decide +kernel
theorem d_Model_beast_29 : decode b_Model_beast 29 = .ok (.if_icmp .ne 6, 3) := by decide +kernel
theorem d_Model_beast_32 : decode b_Model_beast 32 = .ok (.bipush (-4), 2) := by decide +kernel
theorem d_Model_beast_34 : decode b_Model_beast 34 = .ok (.ireturn, 1) := by decide +kernel
theorem d_Model_beast_35 : decode b_Model_beast 35 = .ok (.aload_n 0, 1) := by decide +kernel
theorem d_Model_beast_36 : decode b_Model_beast 36 = .ok (.getfield 13, 3) := by decide +kernel
theorem d_Model_beast_39 : decode b_Model_beast 39 = .ok (.aload_n 0, 1) := by decide +kernel
theorem d_Model_beast_40 : decode b_Model_beast 40 = .ok (.getfield 148, 3) := by decide +kernel
theorem d_Model_beast_43 : decode b_Model_beast 43 = .ok (.iload_n 1, 1) := by decide +kernel
theorem d_Model_beast_44 : decode b_Model_beast 44 = .ok (.iastore, 1) := by decide +kernel
theorem d_Model_beast_45 : decode b_Model_beast 45 = .ok (.aload_n 0, 1) := by decide +kernel
theorem d_Model_beast_46 : decode b_Model_beast 46 = .ok (.getfield 16, 3) := by decide +kernel
theorem d_Model_beast_49 : decode b_Model_beast 49 = .ok (.aload_n 0, 1) := by decide +kernel
theorem d_Model_beast_50 : decode b_Model_beast 50 = .ok (.getfield 148, 3) := by decide +kernel
theorem d_Model_beast_53 : decode b_Model_beast 53 = .ok (.iload_n 2, 1) := by decide +kernel
theorem d_Model_beast_54 : decode b_Model_beast 54 = .ok (.iastore, 1) := by decide +kernel
theorem d_Model_beast_55 : decode b_Model_beast 55 = .ok (.aload_n 0, 1) := by decide +kernel
theorem d_Model_beast_56 : decode b_Model_beast 56 = .ok (.dup, 1) := by decide +kernel
theorem d_Model_beast_57 : decode b_Model_beast 57 = .ok (.getfield 148, 3) := by decide +kernel
theorem d_Model_beast_60 : decode b_Model_beast 60 = .ok (.iconst 1, 1) := by decide +kernel
theorem d_Model_beast_61 : decode b_Model_beast 61 = .ok (.iadd, 1) := by decide +kernel
theorem d_Model_beast_62 : decode b_Model_beast 62 = .ok (.putfield 148, 3) := by decide +kernel
theorem d_Model_beast_65 : decode b_Model_beast 65 = .ok (.aload_n 0, 1) := by decide +kernel
theorem d_Model_beast_66 : decode b_Model_beast 66 = .ok (.getfield 148, 3) := by decide +kernel
theorem d_Model_beast_69 : decode b_Model_beast 69 = .ok (.iconst 1, 1) := by decide +kernel
theorem d_Model_beast_70 : decode b_Model_beast 70 = .ok (.isub, 1) := by decide +kernel
theorem d_Model_beast_71 : decode b_Model_beast 71 = .ok (.ireturn, 1) := by decide +kernel
theorem v_Model_beast : dk_Yv y_Model_beast b_Model_beast 3 (some .int) 2 := ⟨dk_in (List.mem_of_getElem? (i := 1135) (by decide +kernel)) rfl, dk_in (List.mem_of_getElem? (i := 1136) (by decide +kernel)) rfl, dk_in (List.mem_of_getElem? (i := 75) (by decide +kernel)) rfl, dk_in (List.mem_of_getElem? (i := 1137) (by decide +kernel)) rfl, by decide +kernel, by decide +kernel, by decide +kernel⟩
abbrev rm_Model_beast : Room := { frames := 2, cells := 0, slots := 0, locals := 43 }
theorem f_Model_13 : Cond.fieldLink R_Model 13 (T_Model 3).1 (T_Model 3).2.1 (T_Model 3).2.2.1 ∈ dk_tb := dk_in (List.mem_of_getElem? (i := 967) (by decide +kernel)) rfl
theorem f_Model_148 : Cond.fieldLink R_Model 148 (T_Model 2).1 (T_Model 2).2.1 (T_Model 2).2.2.1 ∈ dk_tb := dk_in (List.mem_of_getElem? (i := 966) (by decide +kernel)) rfl
theorem f_Model_16 : Cond.fieldLink R_Model 16 (T_Model 4).1 (T_Model 4).2.1 (T_Model 4).2.2.1 ∈ dk_tb := dk_in (List.mem_of_getElem? (i := 968) (by decide +kernel)) rfl
def B_Model_beast_0 (n : Nat)  (x1 : Int32) (x2 : Int32) (S : dk_S) : Option (Int32 × dk_S) :=
  dk_c (F_Model_isGround n x1 S) fun r2 S1 => if ¬ r2 = 0 then (dk_c (F_Model_in n x2 (-1 : Int32) (9 : Int32) S1) fun r4 S3 => if ¬ r4 = 0 then (if ¬ (S3 2 0) = (6 : Int32) then (dk_w S3 3 6 (S3 2 0) x1 fun S5 => dk_w S5 4 6 (S5 2 0) x2 fun S6 => dk_p S6 2 ((S6 2 0) + (1 : Int32)) fun S7 => some (((S7 2 0) - (1 : Int32)), S7)) else (some ((-4 : Int32), S3))) else (some ((-2 : Int32), S3))) else (some ((-1 : Int32), S1))
set_option maxRecDepth 20000 in
theorem kb_Model_beast_0 {p : Program} {l : Launch} {e : Env} {s : State} {m : MethodId} {args : Array Value} {below : List Frame} {meth : Method} {c : Code} {g : dk_G} {A : Nat → Prop} {Q : State → Prop} {am : Nat → Nat} {n : Nat} {res : (Int32 × dk_S)} (X : dk_X p s m args meth c b_Model_beast 3 R_Model (some .int) g A) (hR : dk_Ri p l e rm_Model_beast s m args below meth c g A Q 3 b_Model_beast (some .int) (wM g am) res)  {x1 : Int32} {x2 : Int32} {S : dk_S}  (hF : B_Model_beast_0 n  x1 x2 S = some res) : dk_J p l e rm_Model_beast s m args below meth c g A Q 3 0 0 0 [(0, .ref (am 0)), (1, .int x1), (2, .int x2)] [] (wM g am S) := by
  unfold B_Model_beast_0 at hF
  refine dk_aload_n (k := 0) (i := 0) X 0 rfl rfl d_Model_beast_0 ?_
  refine dk_iload_n (k := 1) (i := 1) X 1 rfl rfl d_Model_beast_1 ?_
  refine dk_callVi X v_Model_isGround [.int x1] (c_Model_isGround l g am n x1 S) 0 (oM_Model g am S) rfl rfl m_Model_154 rfl rfl ⟨rfl, rfl, Nat.le_of_ble_eq_true rfl, Nat.le_of_ble_eq_true rfl, Nat.le_refl _, Nat.le_refl _⟩ (Nat.le_of_ble_eq_true rfl) d_Model_beast_2 hF (fun r2 S1 hF => ?_)
  refine dk_if_ne (tgt := 10) X (by decide) d_Model_beast_5 hF (fun hF => ?_) (fun hF => ?_)
  · refine dk_iload_n (k := 2) (i := 2) X 2 rfl rfl d_Model_beast_10 ?_
    refine dk_iconst (v := -1) X (by decide) d_Model_beast_11 ?_
    refine dk_bipush (v := 9) X (by decide) d_Model_beast_12 ?_
    refine dk_callSi X v_Model_in [.int x2, .int (-1 : Int32), .int (9 : Int32)] (c_Model_in l g am n x2 (-1 : Int32) (9 : Int32) S1) m_Model_144 rfl rfl ⟨rfl, rfl, Nat.le_of_ble_eq_true rfl, Nat.le_of_ble_eq_true rfl, Nat.le_refl _, Nat.le_refl _⟩ (Nat.le_of_ble_eq_true rfl) d_Model_beast_14 hF (fun r4 S3 hF => ?_)
    refine dk_if_ne (tgt := 23) X (by decide) d_Model_beast_17 hF (fun hF => ?_) (fun hF => ?_)
    · refine dk_aload_n (k := 0) (i := 0) X 0 rfl rfl d_Model_beast_23 ?_
      refine dk_get X q_Model 0 2 (by decide) (oM_Model g am S3) rfl f_Model_148 d_Model_beast_24 ?_
      refine dk_bipush (v := 6) X (by decide) d_Model_beast_27 ?_
      refine dk_icmp_ne (tgt := 35) X (by decide) d_Model_beast_29 hF (fun hF => ?_) (fun hF => ?_)
      · refine dk_aload_n (k := 0) (i := 0) X 0 rfl rfl d_Model_beast_35 ?_
        refine dk_get X q_Model 0 3 (by decide) (oM_Model g am S3) rfl f_Model_13 d_Model_beast_36 ?_
        refine dk_aload_n (k := 0) (i := 0) X 0 rfl rfl d_Model_beast_39 ?_
        refine dk_get X q_Model 0 2 (by decide) (oM_Model g am S3) rfl f_Model_148 d_Model_beast_40 ?_
        refine dk_iload_n (k := 1) (i := 1) X 1 rfl rfl d_Model_beast_43 ?_
        refine dk_iast X 2 (aM_2 g am S3) (sM_2 g am S3 _ _) d_Model_beast_44 hF (fun S5 hF => ?_)
        refine dk_aload_n (k := 0) (i := 0) X 0 rfl rfl d_Model_beast_45 ?_
        refine dk_get X q_Model 0 4 (by decide) (oM_Model g am S5) rfl f_Model_16 d_Model_beast_46 ?_
        refine dk_aload_n (k := 0) (i := 0) X 0 rfl rfl d_Model_beast_49 ?_
        refine dk_get X q_Model 0 2 (by decide) (oM_Model g am S5) rfl f_Model_148 d_Model_beast_50 ?_
        refine dk_iload_n (k := 2) (i := 2) X 2 rfl rfl d_Model_beast_53 ?_
        refine dk_iast X 3 (aM_3 g am S5) (sM_3 g am S5 _ _) d_Model_beast_54 hF (fun S6 hF => ?_)
        refine dk_aload_n (k := 0) (i := 0) X 0 rfl rfl d_Model_beast_55 ?_
        refine dk_dup X rfl d_Model_beast_56 ?_
        refine dk_get X q_Model 0 2 (by decide) (oM_Model g am S6) rfl f_Model_148 d_Model_beast_57 ?_
        refine dk_iconst (v := 1) X (by decide) d_Model_beast_60 ?_
        refine dk_iadd X d_Model_beast_61 ?_
        refine dk_puti X q_Model 0 2 (by decide) (oM_Model g am S6) f_Model_148 rfl rfl (Nat.le_of_ble_eq_true rfl) (sM_Model_beasts g am S6 _) d_Model_beast_62 hF (fun S7 hF => ?_)
        refine dk_aload_n (k := 0) (i := 0) X 0 rfl rfl d_Model_beast_65 ?_
        refine dk_get X q_Model 0 2 (by decide) (oM_Model g am S7) rfl f_Model_148 d_Model_beast_66 ?_
        refine dk_iconst (v := 1) X (by decide) d_Model_beast_69 ?_
        refine dk_isub X d_Model_beast_70 ?_
        exact dk_reti hR hF d_Model_beast_71
      · refine dk_bipush (v := -4) X (by decide) d_Model_beast_32 ?_
        exact dk_reti hR hF d_Model_beast_34
    · refine dk_bipush (v := -2) X (by decide) d_Model_beast_20 ?_
      exact dk_reti hR hF d_Model_beast_22
  · refine dk_iconst (v := -1) X (by decide) d_Model_beast_8 ?_
    exact dk_reti hR hF d_Model_beast_9
def F_Model_beast (n : Nat) (x1 : Int32) (x2 : Int32) (S : dk_S) : Option (Int32 × dk_S) := B_Model_beast_0 n x1 x2 S
theorem c_Model_beast (l : Launch) (g : dk_G) (am : Nat → Nat) (n : Nat) (x1 : Int32) (x2 : Int32)  (S : dk_S) : dk_Mi l g y_Model_beast b_Model_beast 3 rm_Model_beast (some .int) [.ref (am 0), .int x1, .int x2] (wM g am) S (F_Model_beast n x1 x2 S) := dk_enteri (by decide) (Nat.le_of_ble_eq_true rfl) (fun p e s m args below meth c A Q res hF X hR => (kb_Model_beast_0 (n := n) X hR  hF))
abbrev b_Model_isBeast : ByteArray := prog_11_method_6_code
def y_Model_isBeast : MethodName := ⟨R_Model, "isBeast", "(I)Z"⟩
theorem d_Model_isBeast_0 : decode b_Model_isBeast 0 = .ok (.iload_n 1, 1) := by decide +kernel
theorem d_Model_isBeast_1 : decode b_Model_isBeast 1 = .ok (.iconst 0, 1) := by decide +kernel
theorem d_Model_isBeast_2 : decode b_Model_isBeast 2 = .ok (.aload_n 0, 1) := by decide +kernel
theorem d_Model_isBeast_3 : decode b_Model_isBeast 3 = .ok (.getfield 148, 3) := by decide +kernel
theorem d_Model_isBeast_6 : decode b_Model_isBeast 6 = .ok (.iconst 1, 1) := by decide +kernel
theorem d_Model_isBeast_7 : decode b_Model_isBeast 7 = .ok (.isub, 1) := by decide +kernel
theorem d_Model_isBeast_8 : decode b_Model_isBeast 8 = .ok (.invokestatic 144, 3) := by decide +kernel
theorem d_Model_isBeast_11 : decode b_Model_isBeast 11 = .ok (.ireturn, 1) := by decide +kernel
theorem v_Model_isBeast : dk_Yv y_Model_isBeast b_Model_isBeast 2 (some .boolean) 1 := ⟨dk_in (List.mem_of_getElem? (i := 1144) (by decide +kernel)) rfl, dk_in (List.mem_of_getElem? (i := 34) (by decide +kernel)) rfl, dk_in (List.mem_of_getElem? (i := 75) (by decide +kernel)) rfl, dk_in (List.mem_of_getElem? (i := 1145) (by decide +kernel)) rfl, by decide +kernel, by decide +kernel, by decide +kernel⟩
abbrev rm_Model_isBeast : Room := { frames := 1, cells := 0, slots := 0, locals := 22 }
def B_Model_isBeast_0 (n : Nat)  (x1 : Int32) (S : dk_S) : Option (Int32 × dk_S) :=
  dk_c (F_Model_in n x1 (0 : Int32) ((S 2 0) - (1 : Int32)) S) fun r2 S1 => dk_b r2 (some (r2, S1))
set_option maxRecDepth 20000 in
theorem kb_Model_isBeast_0 {p : Program} {l : Launch} {e : Env} {s : State} {m : MethodId} {args : Array Value} {below : List Frame} {meth : Method} {c : Code} {g : dk_G} {A : Nat → Prop} {Q : State → Prop} {am : Nat → Nat} {n : Nat} {res : (Int32 × dk_S)} (X : dk_X p s m args meth c b_Model_isBeast 2 R_Model (some .boolean) g A) (hR : dk_Ri p l e rm_Model_isBeast s m args below meth c g A Q 2 b_Model_isBeast (some .boolean) (wM g am) res)  {x1 : Int32} {S : dk_S}  (hF : B_Model_isBeast_0 n  x1 S = some res) : dk_J p l e rm_Model_isBeast s m args below meth c g A Q 2 0 0 0 [(0, .ref (am 0)), (1, .int x1)] [] (wM g am S) := by
  unfold B_Model_isBeast_0 at hF
  refine dk_iload_n (k := 1) (i := 1) X 1 rfl rfl d_Model_isBeast_0 ?_
  refine dk_iconst (v := 0) X (by decide) d_Model_isBeast_1 ?_
  refine dk_aload_n (k := 0) (i := 0) X 0 rfl rfl d_Model_isBeast_2 ?_
  refine dk_get X q_Model 0 2 (by decide) (oM_Model g am S) rfl f_Model_148 d_Model_isBeast_3 ?_
  refine dk_iconst (v := 1) X (by decide) d_Model_isBeast_6 ?_
  refine dk_isub X d_Model_isBeast_7 ?_
  refine dk_callSi X v_Model_in [.int x1, .int (0 : Int32), .int ((S 2 0) - (1 : Int32))] (c_Model_in l g am n x1 (0 : Int32) ((S 2 0) - (1 : Int32)) S) m_Model_144 rfl rfl ⟨rfl, rfl, Nat.le_of_ble_eq_true rfl, Nat.le_of_ble_eq_true rfl, Nat.le_refl _, Nat.le_refl _⟩ (Nat.le_of_ble_eq_true rfl) d_Model_isBeast_8 hF (fun r2 S1 hF => ?_)
  exact dk_retz hR hF d_Model_isBeast_11
def F_Model_isBeast (n : Nat) (x1 : Int32) (S : dk_S) : Option (Int32 × dk_S) := B_Model_isBeast_0 n x1 S
theorem c_Model_isBeast (l : Launch) (g : dk_G) (am : Nat → Nat) (n : Nat) (x1 : Int32)  (S : dk_S) : dk_Mi l g y_Model_isBeast b_Model_isBeast 2 rm_Model_isBeast (some .boolean) [.ref (am 0), .int x1] (wM g am) S (F_Model_isBeast n x1 S) := dk_enteri (by decide) (Nat.le_of_ble_eq_true rfl) (fun p e s m args below meth c A Q res hF X hR => (kb_Model_isBeast_0 (n := n) X hR  hF))
abbrev b_Model_moment : ByteArray := prog_11_method_11_code
def y_Model_moment : MethodName := ⟨R_Model, "moment", "(IIIII)I"⟩
theorem d_Model_moment_0 : decode b_Model_moment 0 = .ok (.aload_n 0, 1) := by decide +kernel
theorem d_Model_moment_1 : decode b_Model_moment 1 = .ok (.iload_n 3, 1) := by decide +kernel
theorem d_Model_moment_2 : decode b_Model_moment 2 = .ok (.invokevirtual 158, 3) := by decide +kernel
theorem d_Model_moment_5 : decode b_Model_moment 5 = .ok (.ifCond .ne 5, 3) := by decide +kernel
theorem d_Model_moment_8 : decode b_Model_moment 8 = .ok (.iconst (-1), 1) := by decide +kernel
theorem d_Model_moment_9 : decode b_Model_moment 9 = .ok (.ireturn, 1) := by decide +kernel
theorem d_Model_moment_10 : decode b_Model_moment 10 = .ok (.aload_n 0, 1) := by decide +kernel
theorem d_Model_moment_11 : decode b_Model_moment 11 = .ok (.getfield 151, 3) := by decide +kernel
theorem d_Model_moment_14 : decode b_Model_moment 14 = .ok (.ifCond .ne 7, 3) := by decide +kernel
theorem d_Model_moment_17 : decode b_Model_moment 17 = .ok (.iconst 0, 1) := by decide +kernel
theorem d_Model_moment_18 : decode b_Model_moment 18 = .ok (.goto 14, 3) := by decide +kernel
theorem d_Model_moment_21 : decode b_Model_moment 21 = .ok (.aload_n 0, 1) := by decide +kernel
theorem d_Model_moment_22 : decode b_Model_moment 22 = .ok (.getfield 19, 3) := by decide +kernel
theorem d_Model_moment_25 : decode b_Model_moment 25 = .ok (.aload_n 0, 1) := by decide +kernel
theorem d_Model_moment_26 : decode b_Model_moment 26 = .ok (.getfield 151, 3) := by decide +kernel
theorem d_Model_moment_29 : decode b_Model_moment 29 = .ok (.iconst 1, 1) := by decide +kernel
theorem d_Model_moment_30 : decode b_Model_moment 30 = .ok (.isub, 1) := by decide +kernel
theorem d_Model_moment_31 : decode b_Model_moment 31 = .ok (.iaload, 1) := by decide +kernel
theorem d_Model_moment_32 : decode b_Model_moment 32 = .ok (.istore 6, 2) := by decide +kernel
theorem d_Model_moment_34 : decode b_Model_moment 34 = .ok (.iload_n 1, 1) := by decide +kernel
theorem d_Model_moment_35 : decode b_Model_moment 35 = .ok (.iload 6, 2) := by decide +kernel
theorem d_Model_moment_37 : decode b_Model_moment 37 = .ok (.sipush 999, 3) := by decide +kernel
theorem d_Model_moment_40 : decode b_Model_moment 40 = .ok (.invokestatic 144, 3) := by decide +kernel
theorem d_Model_moment_43 : decode b_Model_moment 43 = .ok (.ifCond .eq 49, 3) := by decide +kernel
theorem d_Model_moment_46 : decode b_Model_moment 46 = .ok (.iload_n 2, 1) := by decide +kernel
theorem d_Model_moment_47 : decode b_Model_moment 47 = .ok (.iconst 0, 1) := by decide +kernel
theorem d_Model_moment_48 : decode b_Model_moment 48 = .ok (.bipush 9, 2) := by decide +kernel
theorem d_Model_moment_50 : decode b_Model_moment 50 = .ok (.invokestatic 144, 3) := by decide +kernel
theorem d_Model_moment_53 : decode b_Model_moment 53 = .ok (.ifCond .eq 39, 3) := by decide +kernel
theorem d_Model_moment_56 : decode b_Model_moment 56 = .ok (.iload 4, 2) := by decide +kernel
theorem d_Model_moment_58 : decode b_Model_moment 58 = .ok (.iconst 0, 1) := by decide +kernel
theorem d_Model_moment_59 : decode b_Model_moment 59 = .ok (.bipush 9, 2) := by decide +kernel
theorem d_Model_moment_61 : decode b_Model_moment 61 = .ok (.invokestatic 144, 3) := by decide +kernel
theorem d_Model_moment_64 : decode b_Model_moment 64 = .ok (.ifCond .eq 28, 3) := by decide +kernel
theorem d_Model_moment_67 : decode b_Model_moment 67 = .ok (.iload 5, 2) := by decide +kernel
theorem d_Model_moment_69 : decode b_Model_moment 69 = .ok (.iconst 0, 1) := by decide +kernel
theorem d_Model_moment_70 : decode b_Model_moment 70 = .ok (.iload_n 2, 1) := by decide +kernel
theorem d_Model_moment_71 : decode b_Model_moment 71 = .ok (.iconst 5, 1) := by decide +kernel
theorem d_Model_moment_72 : decode b_Model_moment 72 = .ok (.if_icmp .ne 12, 3) := by decide +kernel
theorem d_Model_moment_75 : decode b_Model_moment 75 = .ok (.aload_n 0, 1) := by decide +kernel
theorem d_Model_moment_76 : decode b_Model_moment 76 = .ok (.getfield 141, 3) := by decide +kernel
theorem d_Model_moment_79 : decode b_Model_moment 79 = .ok (.iconst 1, 1) := by decide +kernel
theorem d_Model_moment_80 : decode b_Model_moment 80 = .ok (.isub, 1) := by decide +kernel
theorem d_Model_moment_81 : decode b_Model_moment 81 = .ok (.goto 5, 3) := by decide +kernel
theorem d_Model_moment_84 : decode b_Model_moment 84 = .ok (.bipush 9, 2) := by decide +kernel
theorem d_Model_moment_86 : decode b_Model_moment 86 = .ok (.invokestatic 144, 3) := by decide +kernel
theorem d_Model_moment_89 : decode b_Model_moment 89 = .ok (.ifCond .ne 6, 3) := by decide +kernel
theorem d_Model_moment_92 : decode b_Model_moment 92 = .ok (.bipush (-2), 2) := by decide +kernel
theorem d_Model_moment_94 : decode b_Model_moment 94 = .ok (.ireturn, 1) := by decide +kernel
theorem d_Model_moment_95 : decode b_Model_moment 95 = .ok (.aload_n 0, 1) := by decide +kernel
theorem d_Model_moment_96 : decode b_Model_moment 96 = .ok (.getfield 151, 3) := by decide +kernel
theorem d_Model_moment_99 : decode b_Model_moment 99 = .ok (.bipush 32, 2) := by decide +kernel
theorem d_Model_moment_101 : decode b_Model_moment 101 = .ok (.if_icmp .ne 6, 3) := by decide +kernel
theorem d_Model_moment_104 : decode b_Model_moment 104 = .ok (.bipush (-4), 2) := by decide +kernel
theorem d_Model_moment_106 : decode b_Model_moment 106 = .ok (.ireturn, 1) := by decide +kernel
theorem d_Model_moment_107 : decode b_Model_moment 107 = .ok (.aload_n 0, 1) := by decide +kernel
theorem d_Model_moment_108 : decode b_Model_moment 108 = .ok (.getfield 19, 3) := by decide +kernel
theorem d_Model_moment_111 : decode b_Model_moment 111 = .ok (.aload_n 0, 1) := by decide +kernel
theorem d_Model_moment_112 : decode b_Model_moment 112 = .ok (.getfield 151, 3) := by decide +kernel
theorem d_Model_moment_115 : decode b_Model_moment 115 = .ok (.iload_n 1, 1) := by decide +kernel
theorem d_Model_moment_116 : decode b_Model_moment 116 = .ok (.iastore, 1) := by decide +kernel
theorem d_Model_moment_117 : decode b_Model_moment 117 = .ok (.aload_n 0, 1) := by decide +kernel
theorem d_Model_moment_118 : decode b_Model_moment 118 = .ok (.getfield 22, 3) := by decide +kernel
theorem d_Model_moment_121 : decode b_Model_moment 121 = .ok (.aload_n 0, 1) := by decide +kernel
theorem d_Model_moment_122 : decode b_Model_moment 122 = .ok (.getfield 151, 3) := by decide +kernel
theorem d_Model_moment_125 : decode b_Model_moment 125 = .ok (.iload_n 2, 1) := by decide +kernel
theorem d_Model_moment_126 : decode b_Model_moment 126 = .ok (.iastore, 1) := by decide +kernel
theorem d_Model_moment_127 : decode b_Model_moment 127 = .ok (.aload_n 0, 1) := by decide +kernel
theorem d_Model_moment_128 : decode b_Model_moment 128 = .ok (.getfield 25, 3) := by decide +kernel
theorem d_Model_moment_131 : decode b_Model_moment 131 = .ok (.aload_n 0, 1) := by decide +kernel
theorem d_Model_moment_132 : decode b_Model_moment 132 = .ok (.getfield 151, 3) := by decide +kernel
theorem d_Model_moment_135 : decode b_Model_moment 135 = .ok (.iload_n 3, 1) := by decide +kernel
theorem d_Model_moment_136 : decode b_Model_moment 136 = .ok (.iastore, 1) := by decide +kernel
theorem d_Model_moment_137 : decode b_Model_moment 137 = .ok (.aload_n 0, 1) := by decide +kernel
theorem d_Model_moment_138 : decode b_Model_moment 138 = .ok (.getfield 28, 3) := by decide +kernel
theorem d_Model_moment_141 : decode b_Model_moment 141 = .ok (.aload_n 0, 1) := by decide +kernel
theorem d_Model_moment_142 : decode b_Model_moment 142 = .ok (.getfield 151, 3) := by decide +kernel
theorem d_Model_moment_145 : decode b_Model_moment 145 = .ok (.iload 4, 2) := by decide +kernel
theorem d_Model_moment_147 : decode b_Model_moment 147 = .ok (.iastore, 1) := by decide +kernel
theorem d_Model_moment_148 : decode b_Model_moment 148 = .ok (.aload_n 0, 1) := by decide +kernel
theorem d_Model_moment_149 : decode b_Model_moment 149 = .ok (.getfield 31, 3) := by decide +kernel
theorem d_Model_moment_152 : decode b_Model_moment 152 = .ok (.aload_n 0, 1) := by decide +kernel
theorem d_Model_moment_153 : decode b_Model_moment 153 = .ok (.getfield 151, 3) := by decide +kernel
theorem d_Model_moment_156 : decode b_Model_moment 156 = .ok (.iload 5, 2) := by decide +kernel
theorem d_Model_moment_158 : decode b_Model_moment 158 = .ok (.iastore, 1) := by decide +kernel
theorem d_Model_moment_159 : decode b_Model_moment 159 = .ok (.aload_n 0, 1) := by decide +kernel
theorem d_Model_moment_160 : decode b_Model_moment 160 = .ok (.getfield 34, 3) := by decide +kernel
theorem d_Model_moment_163 : decode b_Model_moment 163 = .ok (.aload_n 0, 1) := by decide +kernel
theorem d_Model_moment_164 : decode b_Model_moment 164 = .ok (.getfield 151, 3) := by decide +kernel
theorem d_Model_moment_167 : decode b_Model_moment 167 = .ok (.iconst 0, 1) := by decide +kernel
theorem d_Model_moment_168 : decode b_Model_moment 168 = .ok (.iastore, 1) := by decide +kernel
theorem d_Model_moment_169 : decode b_Model_moment 169 = .ok (.aload_n 0, 1) := by decide +kernel
theorem d_Model_moment_170 : decode b_Model_moment 170 = .ok (.dup, 1) := by decide +kernel
theorem d_Model_moment_171 : decode b_Model_moment 171 = .ok (.getfield 151, 3) := by decide +kernel
theorem d_Model_moment_174 : decode b_Model_moment 174 = .ok (.iconst 1, 1) := by decide +kernel
theorem d_Model_moment_175 : decode b_Model_moment 175 = .ok (.iadd, 1) := by decide +kernel
theorem d_Model_moment_176 : decode b_Model_moment 176 = .ok (.putfield 151, 3) := by decide +kernel
theorem d_Model_moment_179 : decode b_Model_moment 179 = .ok (.aload_n 0, 1) := by decide +kernel
theorem d_Model_moment_180 : decode b_Model_moment 180 = .ok (.getfield 151, 3) := by decide +kernel
theorem d_Model_moment_183 : decode b_Model_moment 183 = .ok (.iconst 1, 1) := by decide +kernel
theorem d_Model_moment_184 : decode b_Model_moment 184 = .ok (.isub, 1) := by decide +kernel
theorem d_Model_moment_185 : decode b_Model_moment 185 = .ok (.ireturn, 1) := by decide +kernel
theorem v_Model_moment : dk_Yv y_Model_moment b_Model_moment 7 (some .int) 5 := ⟨dk_in (List.mem_of_getElem? (i := 1139) (by decide +kernel)) rfl, dk_in (List.mem_of_getElem? (i := 1140) (by decide +kernel)) rfl, dk_in (List.mem_of_getElem? (i := 75) (by decide +kernel)) rfl, dk_in (List.mem_of_getElem? (i := 1141) (by decide +kernel)) rfl, by decide +kernel, by decide +kernel, by decide +kernel⟩
abbrev rm_Model_moment : Room := { frames := 2, cells := 0, slots := 0, locals := 43 }
theorem f_Model_151 : Cond.fieldLink R_Model 151 (T_Model 5).1 (T_Model 5).2.1 (T_Model 5).2.2.1 ∈ dk_tb := dk_in (List.mem_of_getElem? (i := 969) (by decide +kernel)) rfl
theorem f_Model_19 : Cond.fieldLink R_Model 19 (T_Model 6).1 (T_Model 6).2.1 (T_Model 6).2.2.1 ∈ dk_tb := dk_in (List.mem_of_getElem? (i := 970) (by decide +kernel)) rfl
theorem f_Model_22 : Cond.fieldLink R_Model 22 (T_Model 7).1 (T_Model 7).2.1 (T_Model 7).2.2.1 ∈ dk_tb := dk_in (List.mem_of_getElem? (i := 971) (by decide +kernel)) rfl
theorem f_Model_25 : Cond.fieldLink R_Model 25 (T_Model 8).1 (T_Model 8).2.1 (T_Model 8).2.2.1 ∈ dk_tb := dk_in (List.mem_of_getElem? (i := 972) (by decide +kernel)) rfl
theorem f_Model_28 : Cond.fieldLink R_Model 28 (T_Model 9).1 (T_Model 9).2.1 (T_Model 9).2.2.1 ∈ dk_tb := dk_in (List.mem_of_getElem? (i := 973) (by decide +kernel)) rfl
theorem f_Model_31 : Cond.fieldLink R_Model 31 (T_Model 10).1 (T_Model 10).2.1 (T_Model 10).2.2.1 ∈ dk_tb := dk_in (List.mem_of_getElem? (i := 974) (by decide +kernel)) rfl
theorem f_Model_34 : Cond.fieldLink R_Model 34 (T_Model 11).1 (T_Model 11).2.1 (T_Model 11).2.2.1 ∈ dk_tb := dk_in (List.mem_of_getElem? (i := 975) (by decide +kernel)) rfl
theorem m_Model_158 : Cond.methodLink R_Model 158 y_Model_isBeast ∈ dk_tb := dk_in (List.mem_of_getElem? (i := 1142) (by decide +kernel)) rfl
def B_Model_moment_86 (n : Nat)  (x1 : Int32) (x2 : Int32) (x3 : Int32) (x4 : Int32) (x5 : Int32) (u0 : Int32) (u1 : Int32) (u2 : Int32) (S : dk_S) : Option (Int32 × dk_S) :=
  dk_c (F_Model_in n u0 u1 u2 S) fun r2 S1 => if ¬ r2 = 0 then (if ¬ (S1 5 0) = (32 : Int32) then (dk_w S1 6 32 (S1 5 0) x1 fun S3 => dk_w S3 7 32 (S3 5 0) x2 fun S4 => dk_w S4 8 32 (S4 5 0) x3 fun S5 => dk_w S5 9 32 (S5 5 0) x4 fun S6 => dk_w S6 10 32 (S6 5 0) x5 fun S7 => dk_w S7 11 32 (S7 5 0) (0 : Int32) fun S8 => dk_p S8 5 ((S8 5 0) + (1 : Int32)) fun S9 => some (((S9 5 0) - (1 : Int32)), S9)) else (some ((-4 : Int32), S1))) else (some ((-2 : Int32), S1))
set_option maxRecDepth 20000 in
theorem kb_Model_moment_86 {p : Program} {l : Launch} {e : Env} {s : State} {m : MethodId} {args : Array Value} {below : List Frame} {meth : Method} {c : Code} {g : dk_G} {A : Nat → Prop} {Q : State → Prop} {am : Nat → Nat} {n : Nat} {res : (Int32 × dk_S)} (X : dk_X p s m args meth c b_Model_moment 7 R_Model (some .int) g A) (hR : dk_Ri p l e rm_Model_moment s m args below meth c g A Q 7 b_Model_moment (some .int) (wM g am) res)  {x1 : Int32} {x2 : Int32} {x3 : Int32} {x4 : Int32} {x5 : Int32} {u0 : Int32} {u1 : Int32} {u2 : Int32} {S : dk_S}  (hF : B_Model_moment_86 n  x1 x2 x3 x4 x5 u0 u1 u2 S = some res) : dk_J p l e rm_Model_moment s m args below meth c g A Q 7 0 0 86 [(0, .ref (am 0)), (1, .int x1), (2, .int x2), (3, .int x3), (4, .int x4), (5, .int x5)] [.int u2, .int u1, .int u0] (wM g am S) := by
  unfold B_Model_moment_86 at hF
  refine dk_callSi X v_Model_in [.int u0, .int u1, .int u2] (c_Model_in l g am n u0 u1 u2 S) m_Model_144 rfl rfl ⟨rfl, rfl, Nat.le_of_ble_eq_true rfl, Nat.le_of_ble_eq_true rfl, Nat.le_refl _, Nat.le_refl _⟩ (Nat.le_of_ble_eq_true rfl) d_Model_moment_86 hF (fun r2 S1 hF => ?_)
  refine dk_if_ne (tgt := 95) X (by decide) d_Model_moment_89 hF (fun hF => ?_) (fun hF => ?_)
  · refine dk_aload_n (k := 0) (i := 0) X 0 rfl rfl d_Model_moment_95 ?_
    refine dk_get X q_Model 0 5 (by decide) (oM_Model g am S1) rfl f_Model_151 d_Model_moment_96 ?_
    refine dk_bipush (v := 32) X (by decide) d_Model_moment_99 ?_
    refine dk_icmp_ne (tgt := 107) X (by decide) d_Model_moment_101 hF (fun hF => ?_) (fun hF => ?_)
    · refine dk_aload_n (k := 0) (i := 0) X 0 rfl rfl d_Model_moment_107 ?_
      refine dk_get X q_Model 0 6 (by decide) (oM_Model g am S1) rfl f_Model_19 d_Model_moment_108 ?_
      refine dk_aload_n (k := 0) (i := 0) X 0 rfl rfl d_Model_moment_111 ?_
      refine dk_get X q_Model 0 5 (by decide) (oM_Model g am S1) rfl f_Model_151 d_Model_moment_112 ?_
      refine dk_iload_n (k := 1) (i := 1) X 1 rfl rfl d_Model_moment_115 ?_
      refine dk_iast X 4 (aM_4 g am S1) (sM_4 g am S1 _ _) d_Model_moment_116 hF (fun S3 hF => ?_)
      refine dk_aload_n (k := 0) (i := 0) X 0 rfl rfl d_Model_moment_117 ?_
      refine dk_get X q_Model 0 7 (by decide) (oM_Model g am S3) rfl f_Model_22 d_Model_moment_118 ?_
      refine dk_aload_n (k := 0) (i := 0) X 0 rfl rfl d_Model_moment_121 ?_
      refine dk_get X q_Model 0 5 (by decide) (oM_Model g am S3) rfl f_Model_151 d_Model_moment_122 ?_
      refine dk_iload_n (k := 2) (i := 2) X 2 rfl rfl d_Model_moment_125 ?_
      refine dk_iast X 5 (aM_5 g am S3) (sM_5 g am S3 _ _) d_Model_moment_126 hF (fun S4 hF => ?_)
      refine dk_aload_n (k := 0) (i := 0) X 0 rfl rfl d_Model_moment_127 ?_
      refine dk_get X q_Model 0 8 (by decide) (oM_Model g am S4) rfl f_Model_25 d_Model_moment_128 ?_
      refine dk_aload_n (k := 0) (i := 0) X 0 rfl rfl d_Model_moment_131 ?_
      refine dk_get X q_Model 0 5 (by decide) (oM_Model g am S4) rfl f_Model_151 d_Model_moment_132 ?_
      refine dk_iload_n (k := 3) (i := 3) X 3 rfl rfl d_Model_moment_135 ?_
      refine dk_iast X 6 (aM_6 g am S4) (sM_6 g am S4 _ _) d_Model_moment_136 hF (fun S5 hF => ?_)
      refine dk_aload_n (k := 0) (i := 0) X 0 rfl rfl d_Model_moment_137 ?_
      refine dk_get X q_Model 0 9 (by decide) (oM_Model g am S5) rfl f_Model_28 d_Model_moment_138 ?_
      refine dk_aload_n (k := 0) (i := 0) X 0 rfl rfl d_Model_moment_141 ?_
      refine dk_get X q_Model 0 5 (by decide) (oM_Model g am S5) rfl f_Model_151 d_Model_moment_142 ?_
      refine dk_iload (i := 4) X 4 rfl d_Model_moment_145 ?_
      refine dk_iast X 7 (aM_7 g am S5) (sM_7 g am S5 _ _) d_Model_moment_147 hF (fun S6 hF => ?_)
      refine dk_aload_n (k := 0) (i := 0) X 0 rfl rfl d_Model_moment_148 ?_
      refine dk_get X q_Model 0 10 (by decide) (oM_Model g am S6) rfl f_Model_31 d_Model_moment_149 ?_
      refine dk_aload_n (k := 0) (i := 0) X 0 rfl rfl d_Model_moment_152 ?_
      refine dk_get X q_Model 0 5 (by decide) (oM_Model g am S6) rfl f_Model_151 d_Model_moment_153 ?_
      refine dk_iload (i := 5) X 5 rfl d_Model_moment_156 ?_
      refine dk_iast X 8 (aM_8 g am S6) (sM_8 g am S6 _ _) d_Model_moment_158 hF (fun S7 hF => ?_)
      refine dk_aload_n (k := 0) (i := 0) X 0 rfl rfl d_Model_moment_159 ?_
      refine dk_get X q_Model 0 11 (by decide) (oM_Model g am S7) rfl f_Model_34 d_Model_moment_160 ?_
      refine dk_aload_n (k := 0) (i := 0) X 0 rfl rfl d_Model_moment_163 ?_
      refine dk_get X q_Model 0 5 (by decide) (oM_Model g am S7) rfl f_Model_151 d_Model_moment_164 ?_
      refine dk_iconst (v := 0) X (by decide) d_Model_moment_167 ?_
      refine dk_iast X 9 (aM_9 g am S7) (sM_9 g am S7 _ _) d_Model_moment_168 hF (fun S8 hF => ?_)
      refine dk_aload_n (k := 0) (i := 0) X 0 rfl rfl d_Model_moment_169 ?_
      refine dk_dup X rfl d_Model_moment_170 ?_
      refine dk_get X q_Model 0 5 (by decide) (oM_Model g am S8) rfl f_Model_151 d_Model_moment_171 ?_
      refine dk_iconst (v := 1) X (by decide) d_Model_moment_174 ?_
      refine dk_iadd X d_Model_moment_175 ?_
      refine dk_puti X q_Model 0 5 (by decide) (oM_Model g am S8) f_Model_151 rfl rfl (Nat.le_of_ble_eq_true rfl) (sM_Model_moments g am S8 _) d_Model_moment_176 hF (fun S9 hF => ?_)
      refine dk_aload_n (k := 0) (i := 0) X 0 rfl rfl d_Model_moment_179 ?_
      refine dk_get X q_Model 0 5 (by decide) (oM_Model g am S9) rfl f_Model_151 d_Model_moment_180 ?_
      refine dk_iconst (v := 1) X (by decide) d_Model_moment_183 ?_
      refine dk_isub X d_Model_moment_184 ?_
      exact dk_reti hR hF d_Model_moment_185
    · refine dk_bipush (v := -4) X (by decide) d_Model_moment_104 ?_
      exact dk_reti hR hF d_Model_moment_106
  · refine dk_bipush (v := -2) X (by decide) d_Model_moment_92 ?_
    exact dk_reti hR hF d_Model_moment_94
def B_Model_moment_32 (n : Nat)  (x1 : Int32) (x2 : Int32) (x3 : Int32) (x4 : Int32) (x5 : Int32) (u0 : Int32) (S : dk_S) : Option (Int32 × dk_S) :=
  dk_c (F_Model_in n x1 u0 (999 : Int32) S) fun r11 S10 => if r11 = 0 then (some ((-2 : Int32), S10)) else (dk_c (F_Model_in n x2 (0 : Int32) (9 : Int32) S10) fun r13 S12 => if r13 = 0 then (some ((-2 : Int32), S12)) else (dk_c (F_Model_in n x4 (0 : Int32) (9 : Int32) S12) fun r15 S14 => if r15 = 0 then (some ((-2 : Int32), S14)) else (if ¬ x2 = (5 : Int32) then (B_Model_moment_86 n  x1 x2 x3 x4 x5 x5 (0 : Int32) (9 : Int32) S14) else (B_Model_moment_86 n  x1 x2 x3 x4 x5 x5 (0 : Int32) ((S14 0 0) - (1 : Int32)) S14))))
set_option maxRecDepth 20000 in
theorem kb_Model_moment_32 {p : Program} {l : Launch} {e : Env} {s : State} {m : MethodId} {args : Array Value} {below : List Frame} {meth : Method} {c : Code} {g : dk_G} {A : Nat → Prop} {Q : State → Prop} {am : Nat → Nat} {n : Nat} {res : (Int32 × dk_S)} (X : dk_X p s m args meth c b_Model_moment 7 R_Model (some .int) g A) (hR : dk_Ri p l e rm_Model_moment s m args below meth c g A Q 7 b_Model_moment (some .int) (wM g am) res)  {x1 : Int32} {x2 : Int32} {x3 : Int32} {x4 : Int32} {x5 : Int32} {u0 : Int32} {S : dk_S}  (hF : B_Model_moment_32 n  x1 x2 x3 x4 x5 u0 S = some res) : dk_J p l e rm_Model_moment s m args below meth c g A Q 7 0 0 32 [(0, .ref (am 0)), (1, .int x1), (2, .int x2), (3, .int x3), (4, .int x4), (5, .int x5)] [.int u0] (wM g am S) := by
  unfold B_Model_moment_32 at hF
  refine dk_istore (i := 6) (lv' := [(6, .int u0), (0, .ref (am 0)), (1, .int x1), (2, .int x2), (3, .int x3), (4, .int x4), (5, .int x5)]) X (by decide) rfl d_Model_moment_32 ?_
  refine dk_iload_n (k := 1) (i := 1) X 2 rfl rfl d_Model_moment_34 ?_
  refine dk_iload (i := 6) X 0 rfl d_Model_moment_35 ?_
  refine dk_sipush (v := 999) X (by decide) d_Model_moment_37 ?_
  refine dk_callSi X v_Model_in [.int x1, .int u0, .int (999 : Int32)] (c_Model_in l g am n x1 u0 (999 : Int32) S) m_Model_144 rfl rfl ⟨rfl, rfl, Nat.le_of_ble_eq_true rfl, Nat.le_of_ble_eq_true rfl, Nat.le_refl _, Nat.le_refl _⟩ (Nat.le_of_ble_eq_true rfl) d_Model_moment_40 hF (fun r11 S10 hF => ?_)
  refine dk_if_eq (tgt := 92) X (by decide) d_Model_moment_43 hF (fun hF => ?_) (fun hF => ?_)
  · refine dk_bipush (v := -2) X (by decide) d_Model_moment_92 ?_
    exact dk_reti hR hF d_Model_moment_94
  · refine dk_iload_n (k := 2) (i := 2) X 3 rfl rfl d_Model_moment_46 ?_
    refine dk_iconst (v := 0) X (by decide) d_Model_moment_47 ?_
    refine dk_bipush (v := 9) X (by decide) d_Model_moment_48 ?_
    refine dk_callSi X v_Model_in [.int x2, .int (0 : Int32), .int (9 : Int32)] (c_Model_in l g am n x2 (0 : Int32) (9 : Int32) S10) m_Model_144 rfl rfl ⟨rfl, rfl, Nat.le_of_ble_eq_true rfl, Nat.le_of_ble_eq_true rfl, Nat.le_refl _, Nat.le_refl _⟩ (Nat.le_of_ble_eq_true rfl) d_Model_moment_50 hF (fun r13 S12 hF => ?_)
    refine dk_if_eq (tgt := 92) X (by decide) d_Model_moment_53 hF (fun hF => ?_) (fun hF => ?_)
    · refine dk_bipush (v := -2) X (by decide) d_Model_moment_92 ?_
      exact dk_reti hR hF d_Model_moment_94
    · refine dk_iload (i := 4) X 5 rfl d_Model_moment_56 ?_
      refine dk_iconst (v := 0) X (by decide) d_Model_moment_58 ?_
      refine dk_bipush (v := 9) X (by decide) d_Model_moment_59 ?_
      refine dk_callSi X v_Model_in [.int x4, .int (0 : Int32), .int (9 : Int32)] (c_Model_in l g am n x4 (0 : Int32) (9 : Int32) S12) m_Model_144 rfl rfl ⟨rfl, rfl, Nat.le_of_ble_eq_true rfl, Nat.le_of_ble_eq_true rfl, Nat.le_refl _, Nat.le_refl _⟩ (Nat.le_of_ble_eq_true rfl) d_Model_moment_61 hF (fun r15 S14 hF => ?_)
      refine dk_if_eq (tgt := 92) X (by decide) d_Model_moment_64 hF (fun hF => ?_) (fun hF => ?_)
      · refine dk_bipush (v := -2) X (by decide) d_Model_moment_92 ?_
        exact dk_reti hR hF d_Model_moment_94
      · refine dk_iload (i := 5) X 6 rfl d_Model_moment_67 ?_
        refine dk_iconst (v := 0) X (by decide) d_Model_moment_69 ?_
        refine dk_iload_n (k := 2) (i := 2) X 3 rfl rfl d_Model_moment_70 ?_
        refine dk_iconst (v := 5) X (by decide) d_Model_moment_71 ?_
        refine dk_icmp_ne (tgt := 84) X (by decide) d_Model_moment_72 hF (fun hF => ?_) (fun hF => ?_)
        · refine dk_bipush (v := 9) X (by decide) d_Model_moment_84 ?_
          exact dk_sub [1, 2, 3, 4, 5, 6] rfl (kb_Model_moment_86 (n := n) X hR   hF)
        · refine dk_aload_n (k := 0) (i := 0) X 1 rfl rfl d_Model_moment_75 ?_
          refine dk_get X q_Model 0 0 (by decide) (oM_Model g am S14) rfl f_Model_141 d_Model_moment_76 ?_
          refine dk_iconst (v := 1) X (by decide) d_Model_moment_79 ?_
          refine dk_isub X d_Model_moment_80 ?_
          refine dk_goto (tgt := 86) X (by decide) d_Model_moment_81 ?_
          exact dk_sub [1, 2, 3, 4, 5, 6] rfl (kb_Model_moment_86 (n := n) X hR   hF)
def B_Model_moment_0 (n : Nat)  (x1 : Int32) (x2 : Int32) (x3 : Int32) (x4 : Int32) (x5 : Int32) (S : dk_S) : Option (Int32 × dk_S) :=
  dk_c (F_Model_isBeast n x3 S) fun r17 S16 => if ¬ r17 = 0 then (if ¬ (S16 5 0) = 0 then (dk_r 32 (S16 6) ((S16 5 0) - (1 : Int32)) fun v18 => B_Model_moment_32 n  x1 x2 x3 x4 x5 v18 S16) else (B_Model_moment_32 n  x1 x2 x3 x4 x5 (0 : Int32) S16)) else (some ((-1 : Int32), S16))
set_option maxRecDepth 20000 in
theorem kb_Model_moment_0 {p : Program} {l : Launch} {e : Env} {s : State} {m : MethodId} {args : Array Value} {below : List Frame} {meth : Method} {c : Code} {g : dk_G} {A : Nat → Prop} {Q : State → Prop} {am : Nat → Nat} {n : Nat} {res : (Int32 × dk_S)} (X : dk_X p s m args meth c b_Model_moment 7 R_Model (some .int) g A) (hR : dk_Ri p l e rm_Model_moment s m args below meth c g A Q 7 b_Model_moment (some .int) (wM g am) res)  {x1 : Int32} {x2 : Int32} {x3 : Int32} {x4 : Int32} {x5 : Int32} {S : dk_S}  (hF : B_Model_moment_0 n  x1 x2 x3 x4 x5 S = some res) : dk_J p l e rm_Model_moment s m args below meth c g A Q 7 0 0 0 [(0, .ref (am 0)), (1, .int x1), (2, .int x2), (3, .int x3), (4, .int x4), (5, .int x5)] [] (wM g am S) := by
  unfold B_Model_moment_0 at hF
  refine dk_aload_n (k := 0) (i := 0) X 0 rfl rfl d_Model_moment_0 ?_
  refine dk_iload_n (k := 3) (i := 3) X 3 rfl rfl d_Model_moment_1 ?_
  refine dk_callVi X v_Model_isBeast [.int x3] (c_Model_isBeast l g am n x3 S) 0 (oM_Model g am S) rfl rfl m_Model_158 rfl rfl ⟨rfl, rfl, Nat.le_of_ble_eq_true rfl, Nat.le_of_ble_eq_true rfl, Nat.le_refl _, Nat.le_refl _⟩ (Nat.le_of_ble_eq_true rfl) d_Model_moment_2 hF (fun r17 S16 hF => ?_)
  refine dk_if_ne (tgt := 10) X (by decide) d_Model_moment_5 hF (fun hF => ?_) (fun hF => ?_)
  · refine dk_aload_n (k := 0) (i := 0) X 0 rfl rfl d_Model_moment_10 ?_
    refine dk_get X q_Model 0 5 (by decide) (oM_Model g am S16) rfl f_Model_151 d_Model_moment_11 ?_
    refine dk_if_ne (tgt := 21) X (by decide) d_Model_moment_14 hF (fun hF => ?_) (fun hF => ?_)
    · refine dk_aload_n (k := 0) (i := 0) X 0 rfl rfl d_Model_moment_21 ?_
      refine dk_get X q_Model 0 6 (by decide) (oM_Model g am S16) rfl f_Model_19 d_Model_moment_22 ?_
      refine dk_aload_n (k := 0) (i := 0) X 0 rfl rfl d_Model_moment_25 ?_
      refine dk_get X q_Model 0 5 (by decide) (oM_Model g am S16) rfl f_Model_151 d_Model_moment_26 ?_
      refine dk_iconst (v := 1) X (by decide) d_Model_moment_29 ?_
      refine dk_isub X d_Model_moment_30 ?_
      refine dk_iald X 4 (aM_4 g am S16) d_Model_moment_31 hF (fun v18 hF => ?_)
      exact (kb_Model_moment_32 (n := n) X hR   hF)
    · refine dk_iconst (v := 0) X (by decide) d_Model_moment_17 ?_
      refine dk_goto (tgt := 32) X (by decide) d_Model_moment_18 ?_
      exact (kb_Model_moment_32 (n := n) X hR   hF)
  · refine dk_iconst (v := -1) X (by decide) d_Model_moment_8 ?_
    exact dk_reti hR hF d_Model_moment_9
def F_Model_moment (n : Nat) (x1 : Int32) (x2 : Int32) (x3 : Int32) (x4 : Int32) (x5 : Int32) (S : dk_S) : Option (Int32 × dk_S) := B_Model_moment_0 n x1 x2 x3 x4 x5 S
theorem c_Model_moment (l : Launch) (g : dk_G) (am : Nat → Nat) (n : Nat) (x1 : Int32) (x2 : Int32) (x3 : Int32) (x4 : Int32) (x5 : Int32)  (S : dk_S) : dk_Mi l g y_Model_moment b_Model_moment 7 rm_Model_moment (some .int) [.ref (am 0), .int x1, .int x2, .int x3, .int x4, .int x5] (wM g am) S (F_Model_moment n x1 x2 x3 x4 x5 S) := dk_enteri (by decide) (Nat.le_of_ble_eq_true rfl) (fun p e s m args below meth c A Q res hF X hR => (kb_Model_moment_0 (n := n) X hR  hF))
abbrev b_Model_undo : ByteArray := prog_11_method_12_code
def y_Model_undo : MethodName := ⟨R_Model, "undo", "()I"⟩
theorem d_Model_undo_0 : decode b_Model_undo 0 = .ok (.aload_n 0, 1) := by decide +kernel
theorem d_Model_undo_1 : decode b_Model_undo 1 = .ok (.getfield 151, 3) := by decide +kernel
theorem d_Model_undo_4 : decode b_Model_undo 4 = .ok (.ifCond .ne 6, 3) := by decide +kernel
theorem d_Model_undo_7 : decode b_Model_undo 7 = .ok (.bipush (-3), 2) := by decide +kernel
theorem d_Model_undo_9 : decode b_Model_undo 9 = .ok (.ireturn, 1) := by decide +kernel
theorem d_Model_undo_10 : decode b_Model_undo 10 = .ok (.aload_n 0, 1) := by decide +kernel
theorem d_Model_undo_11 : decode b_Model_undo 11 = .ok (.dup, 1) := by decide +kernel
theorem d_Model_undo_12 : decode b_Model_undo 12 = .ok (.getfield 151, 3) := by decide +kernel
theorem d_Model_undo_15 : decode b_Model_undo 15 = .ok (.iconst 1, 1) := by decide +kernel
theorem d_Model_undo_16 : decode b_Model_undo 16 = .ok (.isub, 1) := by decide +kernel
theorem d_Model_undo_17 : decode b_Model_undo 17 = .ok (.putfield 151, 3) := by decide +kernel
theorem d_Model_undo_20 : decode b_Model_undo 20 = .ok (.aload_n 0, 1) := by decide +kernel
theorem d_Model_undo_21 : decode b_Model_undo 21 = .ok (.getfield 34, 3) := by decide +kernel
theorem d_Model_undo_24 : decode b_Model_undo 24 = .ok (.aload_n 0, 1) := by decide +kernel
theorem d_Model_undo_25 : decode b_Model_undo 25 = .ok (.getfield 151, 3) := by decide +kernel
theorem d_Model_undo_28 : decode b_Model_undo 28 = .ok (.iconst 0, 1) := by decide +kernel
theorem d_Model_undo_29 : decode b_Model_undo 29 = .ok (.iastore, 1) := by decide +kernel
theorem d_Model_undo_30 : decode b_Model_undo 30 = .ok (.aload_n 0, 1) := by decide +kernel
theorem d_Model_undo_31 : decode b_Model_undo 31 = .ok (.getfield 22, 3) := by decide +kernel
theorem d_Model_undo_34 : decode b_Model_undo 34 = .ok (.aload_n 0, 1) := by decide +kernel
theorem d_Model_undo_35 : decode b_Model_undo 35 = .ok (.getfield 151, 3) := by decide +kernel
theorem d_Model_undo_38 : decode b_Model_undo 38 = .ok (.iaload, 1) := by decide +kernel
theorem d_Model_undo_39 : decode b_Model_undo 39 = .ok (.ireturn, 1) := by decide +kernel
theorem v_Model_undo : dk_Yv y_Model_undo b_Model_undo 1 (some .int) 0 := ⟨dk_in (List.mem_of_getElem? (i := 1147) (by decide +kernel)) rfl, dk_in (List.mem_of_getElem? (i := 1148) (by decide +kernel)) rfl, dk_in (List.mem_of_getElem? (i := 75) (by decide +kernel)) rfl, dk_in (List.mem_of_getElem? (i := 1149) (by decide +kernel)) rfl, by decide +kernel, by decide +kernel, by decide +kernel⟩
abbrev rm_Model_undo : Room := { frames := 0, cells := 0, slots := 0, locals := 0 }
def B_Model_undo_0 (n : Nat)   (S : dk_S) : Option (Int32 × dk_S) :=
  if ¬ (S 5 0) = 0 then (dk_p S 5 ((S 5 0) - (1 : Int32)) fun S1 => dk_w S1 11 32 (S1 5 0) (0 : Int32) fun S2 => dk_r 32 (S2 7) (S2 5 0) fun v3 => some (v3, S2)) else (some ((-3 : Int32), S))
set_option maxRecDepth 20000 in
theorem kb_Model_undo_0 {p : Program} {l : Launch} {e : Env} {s : State} {m : MethodId} {args : Array Value} {below : List Frame} {meth : Method} {c : Code} {g : dk_G} {A : Nat → Prop} {Q : State → Prop} {am : Nat → Nat} {n : Nat} {res : (Int32 × dk_S)} (X : dk_X p s m args meth c b_Model_undo 1 R_Model (some .int) g A) (hR : dk_Ri p l e rm_Model_undo s m args below meth c g A Q 1 b_Model_undo (some .int) (wM g am) res)   {S : dk_S}  (hF : B_Model_undo_0 n   S = some res) : dk_J p l e rm_Model_undo s m args below meth c g A Q 1 0 0 0 [(0, .ref (am 0))] [] (wM g am S) := by
  unfold B_Model_undo_0 at hF
  refine dk_aload_n (k := 0) (i := 0) X 0 rfl rfl d_Model_undo_0 ?_
  refine dk_get X q_Model 0 5 (by decide) (oM_Model g am S) rfl f_Model_151 d_Model_undo_1 ?_
  refine dk_if_ne (tgt := 10) X (by decide) d_Model_undo_4 hF (fun hF => ?_) (fun hF => ?_)
  · refine dk_aload_n (k := 0) (i := 0) X 0 rfl rfl d_Model_undo_10 ?_
    refine dk_dup X rfl d_Model_undo_11 ?_
    refine dk_get X q_Model 0 5 (by decide) (oM_Model g am S) rfl f_Model_151 d_Model_undo_12 ?_
    refine dk_iconst (v := 1) X (by decide) d_Model_undo_15 ?_
    refine dk_isub X d_Model_undo_16 ?_
    refine dk_puti X q_Model 0 5 (by decide) (oM_Model g am S) f_Model_151 rfl rfl (Nat.le_of_ble_eq_true rfl) (sM_Model_moments g am S _) d_Model_undo_17 hF (fun S1 hF => ?_)
    refine dk_aload_n (k := 0) (i := 0) X 0 rfl rfl d_Model_undo_20 ?_
    refine dk_get X q_Model 0 11 (by decide) (oM_Model g am S1) rfl f_Model_34 d_Model_undo_21 ?_
    refine dk_aload_n (k := 0) (i := 0) X 0 rfl rfl d_Model_undo_24 ?_
    refine dk_get X q_Model 0 5 (by decide) (oM_Model g am S1) rfl f_Model_151 d_Model_undo_25 ?_
    refine dk_iconst (v := 0) X (by decide) d_Model_undo_28 ?_
    refine dk_iast X 9 (aM_9 g am S1) (sM_9 g am S1 _ _) d_Model_undo_29 hF (fun S2 hF => ?_)
    refine dk_aload_n (k := 0) (i := 0) X 0 rfl rfl d_Model_undo_30 ?_
    refine dk_get X q_Model 0 7 (by decide) (oM_Model g am S2) rfl f_Model_22 d_Model_undo_31 ?_
    refine dk_aload_n (k := 0) (i := 0) X 0 rfl rfl d_Model_undo_34 ?_
    refine dk_get X q_Model 0 5 (by decide) (oM_Model g am S2) rfl f_Model_151 d_Model_undo_35 ?_
    refine dk_iald X 5 (aM_5 g am S2) d_Model_undo_38 hF (fun v3 hF => ?_)
    exact dk_reti hR hF d_Model_undo_39
  · refine dk_bipush (v := -3) X (by decide) d_Model_undo_7 ?_
    exact dk_reti hR hF d_Model_undo_9
def F_Model_undo (n : Nat)  (S : dk_S) : Option (Int32 × dk_S) := B_Model_undo_0 n  S
theorem c_Model_undo (l : Launch) (g : dk_G) (am : Nat → Nat) (n : Nat)   (S : dk_S) : dk_Mi l g y_Model_undo b_Model_undo 1 rm_Model_undo (some .int) [.ref (am 0)] (wM g am) S (F_Model_undo n  S) := dk_enteri (by decide) (Nat.le_of_ble_eq_true rfl) (fun p e s m args below meth c A Q res hF X hR => (kb_Model_undo_0 (n := n) X hR  hF))
abbrev b_Model_isMoment : ByteArray := prog_11_method_7_code
def y_Model_isMoment : MethodName := ⟨R_Model, "isMoment", "(I)Z"⟩
theorem d_Model_isMoment_0 : decode b_Model_isMoment 0 = .ok (.iload_n 1, 1) := by decide +kernel
theorem d_Model_isMoment_1 : decode b_Model_isMoment 1 = .ok (.iconst 0, 1) := by decide +kernel
theorem d_Model_isMoment_2 : decode b_Model_isMoment 2 = .ok (.aload_n 0, 1) := by decide +kernel
theorem d_Model_isMoment_3 : decode b_Model_isMoment 3 = .ok (.getfield 151, 3) := by decide +kernel
theorem d_Model_isMoment_6 : decode b_Model_isMoment 6 = .ok (.iconst 1, 1) := by decide +kernel
theorem d_Model_isMoment_7 : decode b_Model_isMoment 7 = .ok (.isub, 1) := by decide +kernel
theorem d_Model_isMoment_8 : decode b_Model_isMoment 8 = .ok (.invokestatic 144, 3) := by decide +kernel
theorem d_Model_isMoment_11 : decode b_Model_isMoment 11 = .ok (.ireturn, 1) := by decide +kernel
theorem v_Model_isMoment : dk_Yv y_Model_isMoment b_Model_isMoment 2 (some .boolean) 1 := ⟨dk_in (List.mem_of_getElem? (i := 1156) (by decide +kernel)) rfl, dk_in (List.mem_of_getElem? (i := 35) (by decide +kernel)) rfl, dk_in (List.mem_of_getElem? (i := 75) (by decide +kernel)) rfl, dk_in (List.mem_of_getElem? (i := 1157) (by decide +kernel)) rfl, by decide +kernel, by decide +kernel, by decide +kernel⟩
abbrev rm_Model_isMoment : Room := { frames := 1, cells := 0, slots := 0, locals := 22 }
def B_Model_isMoment_0 (n : Nat)  (x1 : Int32) (S : dk_S) : Option (Int32 × dk_S) :=
  dk_c (F_Model_in n x1 (0 : Int32) ((S 5 0) - (1 : Int32)) S) fun r2 S1 => dk_b r2 (some (r2, S1))
set_option maxRecDepth 20000 in
theorem kb_Model_isMoment_0 {p : Program} {l : Launch} {e : Env} {s : State} {m : MethodId} {args : Array Value} {below : List Frame} {meth : Method} {c : Code} {g : dk_G} {A : Nat → Prop} {Q : State → Prop} {am : Nat → Nat} {n : Nat} {res : (Int32 × dk_S)} (X : dk_X p s m args meth c b_Model_isMoment 2 R_Model (some .boolean) g A) (hR : dk_Ri p l e rm_Model_isMoment s m args below meth c g A Q 2 b_Model_isMoment (some .boolean) (wM g am) res)  {x1 : Int32} {S : dk_S}  (hF : B_Model_isMoment_0 n  x1 S = some res) : dk_J p l e rm_Model_isMoment s m args below meth c g A Q 2 0 0 0 [(0, .ref (am 0)), (1, .int x1)] [] (wM g am S) := by
  unfold B_Model_isMoment_0 at hF
  refine dk_iload_n (k := 1) (i := 1) X 1 rfl rfl d_Model_isMoment_0 ?_
  refine dk_iconst (v := 0) X (by decide) d_Model_isMoment_1 ?_
  refine dk_aload_n (k := 0) (i := 0) X 0 rfl rfl d_Model_isMoment_2 ?_
  refine dk_get X q_Model 0 5 (by decide) (oM_Model g am S) rfl f_Model_151 d_Model_isMoment_3 ?_
  refine dk_iconst (v := 1) X (by decide) d_Model_isMoment_6 ?_
  refine dk_isub X d_Model_isMoment_7 ?_
  refine dk_callSi X v_Model_in [.int x1, .int (0 : Int32), .int ((S 5 0) - (1 : Int32))] (c_Model_in l g am n x1 (0 : Int32) ((S 5 0) - (1 : Int32)) S) m_Model_144 rfl rfl ⟨rfl, rfl, Nat.le_of_ble_eq_true rfl, Nat.le_of_ble_eq_true rfl, Nat.le_refl _, Nat.le_refl _⟩ (Nat.le_of_ble_eq_true rfl) d_Model_isMoment_8 hF (fun r2 S1 hF => ?_)
  exact dk_retz hR hF d_Model_isMoment_11
def F_Model_isMoment (n : Nat) (x1 : Int32) (S : dk_S) : Option (Int32 × dk_S) := B_Model_isMoment_0 n x1 S
theorem c_Model_isMoment (l : Launch) (g : dk_G) (am : Nat → Nat) (n : Nat) (x1 : Int32)  (S : dk_S) : dk_Mi l g y_Model_isMoment b_Model_isMoment 2 rm_Model_isMoment (some .boolean) [.ref (am 0), .int x1] (wM g am) S (F_Model_isMoment n x1 S) := dk_enteri (by decide) (Nat.le_of_ble_eq_true rfl) (fun p e s m args below meth c A Q res hF X hR => (kb_Model_isMoment_0 (n := n) X hR  hF))
abbrev b_Model_unsureMany : ByteArray := prog_11_method_13_code
def y_Model_unsureMany : MethodName := ⟨R_Model, "unsureMany", "()I"⟩
theorem d_Model_unsureMany_0 : decode b_Model_unsureMany 0 = .ok (.iconst 0, 1) := by decide +kernel
theorem d_Model_unsureMany_1 : decode b_Model_unsureMany 1 = .ok (.istore_n 1, 1) := by decide +kernel
theorem d_Model_unsureMany_2 : decode b_Model_unsureMany 2 = .ok (.iconst 0, 1) := by decide +kernel
theorem d_Model_unsureMany_3 : decode b_Model_unsureMany 3 = .ok (.istore_n 2, 1) := by decide +kernel
theorem d_Model_unsureMany_4 : decode b_Model_unsureMany 4 = .ok (.iload_n 2, 1) := by decide +kernel
theorem d_Model_unsureMany_5 : decode b_Model_unsureMany 5 = .ok (.aload_n 0, 1) := by decide +kernel
theorem d_Model_unsureMany_6 : decode b_Model_unsureMany 6 = .ok (.getfield 151, 3) := by decide +kernel
theorem d_Model_unsureMany_9 : decode b_Model_unsureMany 9 = .ok (.if_icmp .ge 18, 3) := by decide +kernel
theorem d_Model_unsureMany_12 : decode b_Model_unsureMany 12 = .ok (.iload_n 1, 1) := by decide +kernel
theorem d_Model_unsureMany_13 : decode b_Model_unsureMany 13 = .ok (.aload_n 0, 1) := by decide +kernel
theorem d_Model_unsureMany_14 : decode b_Model_unsureMany 14 = .ok (.getfield 34, 3) := by decide +kernel
theorem d_Model_unsureMany_17 : decode b_Model_unsureMany 17 = .ok (.iload_n 2, 1) := by decide +kernel
theorem d_Model_unsureMany_18 : decode b_Model_unsureMany 18 = .ok (.iaload, 1) := by decide +kernel
theorem d_Model_unsureMany_19 : decode b_Model_unsureMany 19 = .ok (.iadd, 1) := by decide +kernel
theorem d_Model_unsureMany_20 : decode b_Model_unsureMany 20 = .ok (.istore_n 1, 1) := by decide +kernel
theorem d_Model_unsureMany_21 : decode b_Model_unsureMany 21 = .ok (.iinc 2 1, 3) := by decide +kernel
theorem d_Model_unsureMany_24 : decode b_Model_unsureMany 24 = .ok (.goto (-20), 3) := by decide +kernel
theorem d_Model_unsureMany_27 : decode b_Model_unsureMany 27 = .ok (.iload_n 1, 1) := by decide +kernel
theorem d_Model_unsureMany_28 : decode b_Model_unsureMany 28 = .ok (.ireturn, 1) := by decide +kernel
theorem v_Model_unsureMany : dk_Yv y_Model_unsureMany b_Model_unsureMany 3 (some .int) 0 := ⟨dk_in (List.mem_of_getElem? (i := 1160) (by decide +kernel)) rfl, dk_in (List.mem_of_getElem? (i := 36) (by decide +kernel)) rfl, dk_in (List.mem_of_getElem? (i := 75) (by decide +kernel)) rfl, dk_in (List.mem_of_getElem? (i := 1161) (by decide +kernel)) rfl, by decide +kernel, by decide +kernel, by decide +kernel⟩
abbrev rm_Model_unsureMany : Room := { frames := 0, cells := 0, slots := 0, locals := 0 }
def B_Model_unsureMany_4b (n : Nat) (k4 : Int32 → Int32 → dk_S → Option (Int32 × dk_S)) (x1 : Int32) (x2 : Int32) (S : dk_S) : Option (Int32 × dk_S) :=
  if (S 5 0) ≤ x2 then (some (x1, S)) else (dk_r 32 (S 11) x2 fun v1 => k4 (x1 + v1) (x2 + (1 : Int32)) S)
set_option maxRecDepth 20000 in
theorem kb_Model_unsureMany_4b {p : Program} {l : Launch} {e : Env} {s : State} {m : MethodId} {args : Array Value} {below : List Frame} {meth : Method} {c : Code} {g : dk_G} {A : Nat → Prop} {Q : State → Prop} {am : Nat → Nat} {n : Nat} {res : (Int32 × dk_S)} (X : dk_X p s m args meth c b_Model_unsureMany 3 R_Model (some .int) g A) (hR : dk_Ri p l e rm_Model_unsureMany s m args below meth c g A Q 3 b_Model_unsureMany (some .int) (wM g am) res) {k4 : Int32 → Int32 → dk_S → Option (Int32 × dk_S)} (hk4 : ∀ (x1 : Int32) (x2 : Int32)  (S : dk_S), k4 x1 x2 S = some res → dk_J p l e rm_Model_unsureMany s m args below meth c g A Q 3 0 0 4 [(0, .ref (am 0)), (1, .int x1), (2, .int x2)] [] (wM g am S)) {x1 : Int32} {x2 : Int32} {S : dk_S}  (hF : B_Model_unsureMany_4b n k4 x1 x2 S = some res) : dk_J p l e rm_Model_unsureMany s m args below meth c g A Q 3 0 0 4 [(0, .ref (am 0)), (1, .int x1), (2, .int x2)] [] (wM g am S) := by
  unfold B_Model_unsureMany_4b at hF
  refine dk_iload_n (k := 2) (i := 2) X 2 rfl rfl d_Model_unsureMany_4 ?_
  refine dk_aload_n (k := 0) (i := 0) X 0 rfl rfl d_Model_unsureMany_5 ?_
  refine dk_get X q_Model 0 5 (by decide) (oM_Model g am S) rfl f_Model_151 d_Model_unsureMany_6 ?_
  refine dk_icmp_ge (tgt := 27) X (by decide) d_Model_unsureMany_9 hF (fun hF => ?_) (fun hF => ?_)
  · refine dk_iload_n (k := 1) (i := 1) X 1 rfl rfl d_Model_unsureMany_27 ?_
    exact dk_reti hR hF d_Model_unsureMany_28
  · refine dk_iload_n (k := 1) (i := 1) X 1 rfl rfl d_Model_unsureMany_12 ?_
    refine dk_aload_n (k := 0) (i := 0) X 0 rfl rfl d_Model_unsureMany_13 ?_
    refine dk_get X q_Model 0 11 (by decide) (oM_Model g am S) rfl f_Model_34 d_Model_unsureMany_14 ?_
    refine dk_iload_n (k := 2) (i := 2) X 2 rfl rfl d_Model_unsureMany_17 ?_
    refine dk_iald X 9 (aM_9 g am S) d_Model_unsureMany_18 hF (fun v1 hF => ?_)
    refine dk_iadd X d_Model_unsureMany_19 ?_
    refine dk_istore_n (k := 1) (i := 1) (lv' := [(1, .int (x1 + v1)), (0, .ref (am 0)), (2, .int x2)]) X rfl (by decide) rfl d_Model_unsureMany_20 ?_
    refine dk_iinc (i := 2) (v := (x2 + (1 : Int32))) (lv' := [(2, .int (x2 + (1 : Int32))), (1, .int (x1 + v1)), (0, .ref (am 0))]) X 2 rfl (dk_ii _ (by decide)) (by decide) rfl d_Model_unsureMany_21 ?_
    refine dk_goto (tgt := 4) X (by decide) d_Model_unsureMany_24 ?_
    exact dk_sub [2, 1, 0] rfl (hk4 (x1 + v1) (x2 + (1 : Int32)) S hF)
def B_Model_unsureMany_4 (n : Nat)  : Nat → Int32 → Int32 → dk_S → Option (Int32 × dk_S)
  | 0 => fun _ _ _ => none
  | q + 1 => fun x1 x2 S => B_Model_unsureMany_4b n (fun x1 x2 S => B_Model_unsureMany_4 n  q x1 x2 S) x1 x2 S
theorem kb_Model_unsureMany_4 {p : Program} {l : Launch} {e : Env} {s : State} {m : MethodId} {args : Array Value} {below : List Frame} {meth : Method} {c : Code} {g : dk_G} {A : Nat → Prop} {Q : State → Prop} {am : Nat → Nat} {n : Nat} {res : (Int32 × dk_S)} (X : dk_X p s m args meth c b_Model_unsureMany 3 R_Model (some .int) g A) (hR : dk_Ri p l e rm_Model_unsureMany s m args below meth c g A Q 3 b_Model_unsureMany (some .int) (wM g am) res)  : ∀ (q : Nat) (x1 : Int32) (x2 : Int32)  (S : dk_S), B_Model_unsureMany_4 n  q x1 x2 S = some res → dk_J p l e rm_Model_unsureMany s m args below meth c g A Q 3 0 0 4 [(0, .ref (am 0)), (1, .int x1), (2, .int x2)] [] (wM g am S) := by
  intro q
  induction q with
  | zero => intro x1 x2  S hF; cases hF
  | succ q ih => intro x1 x2  S hF; exact kb_Model_unsureMany_4b (n := n) X hR ih  hF
def B_Model_unsureMany_0 (n : Nat)   (S : dk_S) : Option (Int32 × dk_S) :=
  B_Model_unsureMany_4 n  n (0 : Int32) (0 : Int32) S
set_option maxRecDepth 20000 in
theorem kb_Model_unsureMany_0 {p : Program} {l : Launch} {e : Env} {s : State} {m : MethodId} {args : Array Value} {below : List Frame} {meth : Method} {c : Code} {g : dk_G} {A : Nat → Prop} {Q : State → Prop} {am : Nat → Nat} {n : Nat} {res : (Int32 × dk_S)} (X : dk_X p s m args meth c b_Model_unsureMany 3 R_Model (some .int) g A) (hR : dk_Ri p l e rm_Model_unsureMany s m args below meth c g A Q 3 b_Model_unsureMany (some .int) (wM g am) res)   {S : dk_S}  (hF : B_Model_unsureMany_0 n   S = some res) : dk_J p l e rm_Model_unsureMany s m args below meth c g A Q 3 0 0 0 [(0, .ref (am 0))] [] (wM g am S) := by
  unfold B_Model_unsureMany_0 at hF
  refine dk_iconst (v := 0) X (by decide) d_Model_unsureMany_0 ?_
  refine dk_istore_n (k := 1) (i := 1) (lv' := [(1, .int (0 : Int32)), (0, .ref (am 0))]) X rfl (by decide) rfl d_Model_unsureMany_1 ?_
  refine dk_iconst (v := 0) X (by decide) d_Model_unsureMany_2 ?_
  refine dk_istore_n (k := 2) (i := 2) (lv' := [(2, .int (0 : Int32)), (1, .int (0 : Int32)), (0, .ref (am 0))]) X rfl (by decide) rfl d_Model_unsureMany_3 ?_
  exact dk_sub [2, 1, 0] rfl (kb_Model_unsureMany_4 (n := n) X hR  n (0 : Int32) (0 : Int32) S hF)
def F_Model_unsureMany (n : Nat)  (S : dk_S) : Option (Int32 × dk_S) := B_Model_unsureMany_0 n  S
theorem c_Model_unsureMany (l : Launch) (g : dk_G) (am : Nat → Nat) (n : Nat)   (S : dk_S) : dk_Mi l g y_Model_unsureMany b_Model_unsureMany 3 rm_Model_unsureMany (some .int) [.ref (am 0)] (wM g am) S (F_Model_unsureMany n  S) := dk_enteri (by decide) (Nat.le_of_ble_eq_true rfl) (fun p e s m args below meth c A Q res hF X hR => (kb_Model_unsureMany_0 (n := n) X hR  hF))
abbrev b_Model_unsure : ByteArray := prog_11_method_14_code
def y_Model_unsure : MethodName := ⟨R_Model, "unsure", "(II)I"⟩
theorem d_Model_unsure_0 : decode b_Model_unsure 0 = .ok (.aload_n 0, 1) := by decide +kernel
theorem d_Model_unsure_1 : decode b_Model_unsure 1 = .ok (.iload_n 1, 1) := by decide +kernel
theorem d_Model_unsure_2 : decode b_Model_unsure 2 = .ok (.invokevirtual 161, 3) := by decide +kernel
theorem d_Model_unsure_5 : decode b_Model_unsure 5 = .ok (.ifCond .ne 5, 3) := by decide +kernel
theorem d_Model_unsure_8 : decode b_Model_unsure 8 = .ok (.iconst (-1), 1) := by decide +kernel
theorem d_Model_unsure_9 : decode b_Model_unsure 9 = .ok (.ireturn, 1) := by decide +kernel
theorem d_Model_unsure_10 : decode b_Model_unsure 10 = .ok (.iload_n 2, 1) := by decide +kernel
theorem d_Model_unsure_11 : decode b_Model_unsure 11 = .ok (.iconst 0, 1) := by decide +kernel
theorem d_Model_unsure_12 : decode b_Model_unsure 12 = .ok (.iconst 1, 1) := by decide +kernel
theorem d_Model_unsure_13 : decode b_Model_unsure 13 = .ok (.invokestatic 144, 3) := by decide +kernel
theorem d_Model_unsure_16 : decode b_Model_unsure 16 = .ok (.ifCond .ne 6, 3) := by decide +kernel
theorem d_Model_unsure_19 : decode b_Model_unsure 19 = .ok (.bipush (-2), 2) := by decide +kernel
theorem d_Model_unsure_21 : decode b_Model_unsure 21 = .ok (.ireturn, 1) := by decide +kernel
theorem d_Model_unsure_22 : decode b_Model_unsure 22 = .ok (.iload_n 2, 1) := by decide +kernel
theorem d_Model_unsure_23 : decode b_Model_unsure 23 = .ok (.iconst 1, 1) := by decide +kernel
theorem d_Model_unsure_24 : decode b_Model_unsure 24 = .ok (.if_icmp .ne 24, 3) := by decide +kernel
theorem d_Model_unsure_27 : decode b_Model_unsure 27 = .ok (.aload_n 0, 1) := by decide +kernel
theorem d_Model_unsure_28 : decode b_Model_unsure 28 = .ok (.getfield 34, 3) := by decide +kernel
theorem d_Model_unsure_31 : decode b_Model_unsure 31 = .ok (.iload_n 1, 1) := by decide +kernel
theorem d_Model_unsure_32 : decode b_Model_unsure 32 = .ok (.iaload, 1) := by decide +kernel
theorem d_Model_unsure_33 : decode b_Model_unsure 33 = .ok (.ifCond .ne 15, 3) := by decide +kernel
theorem d_Model_unsure_36 : decode b_Model_unsure 36 = .ok (.aload_n 0, 1) := by decide +kernel
theorem d_Model_unsure_37 : decode b_Model_unsure 37 = .ok (.invokevirtual 164, 3) := by decide +kernel
theorem d_Model_unsure_40 : decode b_Model_unsure 40 = .ok (.bipush 6, 2) := by decide +kernel
theorem d_Model_unsure_42 : decode b_Model_unsure 42 = .ok (.if_icmp .ne 6, 3) := by decide +kernel
theorem d_Model_unsure_45 : decode b_Model_unsure 45 = .ok (.bipush (-4), 2) := by decide +kernel
theorem d_Model_unsure_47 : decode b_Model_unsure 47 = .ok (.ireturn, 1) := by decide +kernel
theorem d_Model_unsure_48 : decode b_Model_unsure 48 = .ok (.aload_n 0, 1) := by decide +kernel
theorem d_Model_unsure_49 : decode b_Model_unsure 49 = .ok (.getfield 34, 3) := by decide +kernel
theorem d_Model_unsure_52 : decode b_Model_unsure 52 = .ok (.iload_n 1, 1) := by decide +kernel
theorem d_Model_unsure_53 : decode b_Model_unsure 53 = .ok (.iaload, 1) := by decide +kernel
theorem d_Model_unsure_54 : decode b_Model_unsure 54 = .ok (.istore_n 3, 1) := by decide +kernel
theorem d_Model_unsure_55 : decode b_Model_unsure 55 = .ok (.aload_n 0, 1) := by decide +kernel
theorem d_Model_unsure_56 : decode b_Model_unsure 56 = .ok (.getfield 34, 3) := by decide +kernel
theorem d_Model_unsure_59 : decode b_Model_unsure 59 = .ok (.iload_n 1, 1) := by decide +kernel
theorem d_Model_unsure_60 : decode b_Model_unsure 60 = .ok (.iload_n 2, 1) := by decide +kernel
theorem d_Model_unsure_61 : decode b_Model_unsure 61 = .ok (.iastore, 1) := by decide +kernel
theorem d_Model_unsure_62 : decode b_Model_unsure 62 = .ok (.iload_n 3, 1) := by decide +kernel
theorem d_Model_unsure_63 : decode b_Model_unsure 63 = .ok (.ireturn, 1) := by decide +kernel
theorem v_Model_unsure : dk_Yv y_Model_unsure b_Model_unsure 4 (some .int) 2 := ⟨dk_in (List.mem_of_getElem? (i := 1151) (by decide +kernel)) rfl, dk_in (List.mem_of_getElem? (i := 1152) (by decide +kernel)) rfl, dk_in (List.mem_of_getElem? (i := 75) (by decide +kernel)) rfl, dk_in (List.mem_of_getElem? (i := 1153) (by decide +kernel)) rfl, by decide +kernel, by decide +kernel, by decide +kernel⟩
abbrev rm_Model_unsure : Room := { frames := 2, cells := 0, slots := 0, locals := 43 }
theorem m_Model_161 : Cond.methodLink R_Model 161 y_Model_isMoment ∈ dk_tb := dk_in (List.mem_of_getElem? (i := 1154) (by decide +kernel)) rfl
theorem m_Model_164 : Cond.methodLink R_Model 164 y_Model_unsureMany ∈ dk_tb := dk_in (List.mem_of_getElem? (i := 1158) (by decide +kernel)) rfl
def B_Model_unsure_48 (n : Nat)  (x1 : Int32) (x2 : Int32) (S : dk_S) : Option (Int32 × dk_S) :=
  dk_r 32 (S 11) x1 fun v1 => dk_w S 11 32 x1 x2 fun S2 => some (v1, S2)
set_option maxRecDepth 20000 in
theorem kb_Model_unsure_48 {p : Program} {l : Launch} {e : Env} {s : State} {m : MethodId} {args : Array Value} {below : List Frame} {meth : Method} {c : Code} {g : dk_G} {A : Nat → Prop} {Q : State → Prop} {am : Nat → Nat} {n : Nat} {res : (Int32 × dk_S)} (X : dk_X p s m args meth c b_Model_unsure 4 R_Model (some .int) g A) (hR : dk_Ri p l e rm_Model_unsure s m args below meth c g A Q 4 b_Model_unsure (some .int) (wM g am) res)  {x1 : Int32} {x2 : Int32} {S : dk_S}  (hF : B_Model_unsure_48 n  x1 x2 S = some res) : dk_J p l e rm_Model_unsure s m args below meth c g A Q 4 0 0 48 [(0, .ref (am 0)), (1, .int x1), (2, .int x2)] [] (wM g am S) := by
  unfold B_Model_unsure_48 at hF
  refine dk_aload_n (k := 0) (i := 0) X 0 rfl rfl d_Model_unsure_48 ?_
  refine dk_get X q_Model 0 11 (by decide) (oM_Model g am S) rfl f_Model_34 d_Model_unsure_49 ?_
  refine dk_iload_n (k := 1) (i := 1) X 1 rfl rfl d_Model_unsure_52 ?_
  refine dk_iald X 9 (aM_9 g am S) d_Model_unsure_53 hF (fun v1 hF => ?_)
  refine dk_istore_n (k := 3) (i := 3) (lv' := [(3, .int v1), (0, .ref (am 0)), (1, .int x1), (2, .int x2)]) X rfl (by decide) rfl d_Model_unsure_54 ?_
  refine dk_aload_n (k := 0) (i := 0) X 1 rfl rfl d_Model_unsure_55 ?_
  refine dk_get X q_Model 0 11 (by decide) (oM_Model g am S) rfl f_Model_34 d_Model_unsure_56 ?_
  refine dk_iload_n (k := 1) (i := 1) X 2 rfl rfl d_Model_unsure_59 ?_
  refine dk_iload_n (k := 2) (i := 2) X 3 rfl rfl d_Model_unsure_60 ?_
  refine dk_iast X 9 (aM_9 g am S) (sM_9 g am S _ _) d_Model_unsure_61 hF (fun S2 hF => ?_)
  refine dk_iload_n (k := 3) (i := 3) X 0 rfl rfl d_Model_unsure_62 ?_
  exact dk_reti hR hF d_Model_unsure_63
def B_Model_unsure_0 (n : Nat)  (x1 : Int32) (x2 : Int32) (S : dk_S) : Option (Int32 × dk_S) :=
  dk_c (F_Model_isMoment n x1 S) fun r4 S3 => if ¬ r4 = 0 then (dk_c (F_Model_in n x2 (0 : Int32) (1 : Int32) S3) fun r6 S5 => if ¬ r6 = 0 then (if ¬ x2 = (1 : Int32) then (B_Model_unsure_48 n  x1 x2 S5) else (dk_r 32 (S5 11) x1 fun v7 => if ¬ v7 = 0 then (B_Model_unsure_48 n  x1 x2 S5) else (dk_c (F_Model_unsureMany n S5) fun r9 S8 => if ¬ r9 = (6 : Int32) then (B_Model_unsure_48 n  x1 x2 S8) else (some ((-4 : Int32), S8))))) else (some ((-2 : Int32), S5))) else (some ((-1 : Int32), S3))
set_option maxRecDepth 20000 in
theorem kb_Model_unsure_0 {p : Program} {l : Launch} {e : Env} {s : State} {m : MethodId} {args : Array Value} {below : List Frame} {meth : Method} {c : Code} {g : dk_G} {A : Nat → Prop} {Q : State → Prop} {am : Nat → Nat} {n : Nat} {res : (Int32 × dk_S)} (X : dk_X p s m args meth c b_Model_unsure 4 R_Model (some .int) g A) (hR : dk_Ri p l e rm_Model_unsure s m args below meth c g A Q 4 b_Model_unsure (some .int) (wM g am) res)  {x1 : Int32} {x2 : Int32} {S : dk_S}  (hF : B_Model_unsure_0 n  x1 x2 S = some res) : dk_J p l e rm_Model_unsure s m args below meth c g A Q 4 0 0 0 [(0, .ref (am 0)), (1, .int x1), (2, .int x2)] [] (wM g am S) := by
  unfold B_Model_unsure_0 at hF
  refine dk_aload_n (k := 0) (i := 0) X 0 rfl rfl d_Model_unsure_0 ?_
  refine dk_iload_n (k := 1) (i := 1) X 1 rfl rfl d_Model_unsure_1 ?_
  refine dk_callVi X v_Model_isMoment [.int x1] (c_Model_isMoment l g am n x1 S) 0 (oM_Model g am S) rfl rfl m_Model_161 rfl rfl ⟨rfl, rfl, Nat.le_of_ble_eq_true rfl, Nat.le_of_ble_eq_true rfl, Nat.le_refl _, Nat.le_refl _⟩ (Nat.le_of_ble_eq_true rfl) d_Model_unsure_2 hF (fun r4 S3 hF => ?_)
  refine dk_if_ne (tgt := 10) X (by decide) d_Model_unsure_5 hF (fun hF => ?_) (fun hF => ?_)
  · refine dk_iload_n (k := 2) (i := 2) X 2 rfl rfl d_Model_unsure_10 ?_
    refine dk_iconst (v := 0) X (by decide) d_Model_unsure_11 ?_
    refine dk_iconst (v := 1) X (by decide) d_Model_unsure_12 ?_
    refine dk_callSi X v_Model_in [.int x2, .int (0 : Int32), .int (1 : Int32)] (c_Model_in l g am n x2 (0 : Int32) (1 : Int32) S3) m_Model_144 rfl rfl ⟨rfl, rfl, Nat.le_of_ble_eq_true rfl, Nat.le_of_ble_eq_true rfl, Nat.le_refl _, Nat.le_refl _⟩ (Nat.le_of_ble_eq_true rfl) d_Model_unsure_13 hF (fun r6 S5 hF => ?_)
    refine dk_if_ne (tgt := 22) X (by decide) d_Model_unsure_16 hF (fun hF => ?_) (fun hF => ?_)
    · refine dk_iload_n (k := 2) (i := 2) X 2 rfl rfl d_Model_unsure_22 ?_
      refine dk_iconst (v := 1) X (by decide) d_Model_unsure_23 ?_
      refine dk_icmp_ne (tgt := 48) X (by decide) d_Model_unsure_24 hF (fun hF => ?_) (fun hF => ?_)
      · exact (kb_Model_unsure_48 (n := n) X hR   hF)
      · refine dk_aload_n (k := 0) (i := 0) X 0 rfl rfl d_Model_unsure_27 ?_
        refine dk_get X q_Model 0 11 (by decide) (oM_Model g am S5) rfl f_Model_34 d_Model_unsure_28 ?_
        refine dk_iload_n (k := 1) (i := 1) X 1 rfl rfl d_Model_unsure_31 ?_
        refine dk_iald X 9 (aM_9 g am S5) d_Model_unsure_32 hF (fun v7 hF => ?_)
        refine dk_if_ne (tgt := 48) X (by decide) d_Model_unsure_33 hF (fun hF => ?_) (fun hF => ?_)
        · exact (kb_Model_unsure_48 (n := n) X hR   hF)
        · refine dk_aload_n (k := 0) (i := 0) X 0 rfl rfl d_Model_unsure_36 ?_
          refine dk_callVi X v_Model_unsureMany [] (c_Model_unsureMany l g am n S5) 0 (oM_Model g am S5) rfl rfl m_Model_164 rfl rfl ⟨rfl, rfl, Nat.le_of_ble_eq_true rfl, Nat.le_of_ble_eq_true rfl, Nat.le_refl _, Nat.le_refl _⟩ (Nat.le_of_ble_eq_true rfl) d_Model_unsure_37 hF (fun r9 S8 hF => ?_)
          refine dk_bipush (v := 6) X (by decide) d_Model_unsure_40 ?_
          refine dk_icmp_ne (tgt := 48) X (by decide) d_Model_unsure_42 hF (fun hF => ?_) (fun hF => ?_)
          · exact (kb_Model_unsure_48 (n := n) X hR   hF)
          · refine dk_bipush (v := -4) X (by decide) d_Model_unsure_45 ?_
            exact dk_reti hR hF d_Model_unsure_47
    · refine dk_bipush (v := -2) X (by decide) d_Model_unsure_19 ?_
      exact dk_reti hR hF d_Model_unsure_21
  · refine dk_iconst (v := -1) X (by decide) d_Model_unsure_8 ?_
    exact dk_reti hR hF d_Model_unsure_9
def F_Model_unsure (n : Nat) (x1 : Int32) (x2 : Int32) (S : dk_S) : Option (Int32 × dk_S) := B_Model_unsure_0 n x1 x2 S
theorem c_Model_unsure (l : Launch) (g : dk_G) (am : Nat → Nat) (n : Nat) (x1 : Int32) (x2 : Int32)  (S : dk_S) : dk_Mi l g y_Model_unsure b_Model_unsure 4 rm_Model_unsure (some .int) [.ref (am 0), .int x1, .int x2] (wM g am) S (F_Model_unsure n x1 x2 S) := dk_enteri (by decide) (Nat.le_of_ble_eq_true rfl) (fun p e s m args below meth c A Q res hF X hR => (kb_Model_unsure_0 (n := n) X hR  hF))
abbrev b_Model_momentTold : ByteArray := prog_11_method_15_code
def y_Model_momentTold : MethodName := ⟨R_Model, "momentTold", "(II)I"⟩
theorem d_Model_momentTold_0 : decode b_Model_momentTold 0 = .ok (.aload_n 0, 1) := by decide +kernel
theorem d_Model_momentTold_1 : decode b_Model_momentTold 1 = .ok (.iload_n 1, 1) := by decide +kernel
theorem d_Model_momentTold_2 : decode b_Model_momentTold 2 = .ok (.invokevirtual 161, 3) := by decide +kernel
theorem d_Model_momentTold_5 : decode b_Model_momentTold 5 = .ok (.ifCond .ne 6, 3) := by decide +kernel
theorem d_Model_momentTold_8 : decode b_Model_momentTold 8 = .ok (.bipush (-5), 2) := by decide +kernel
theorem d_Model_momentTold_10 : decode b_Model_momentTold 10 = .ok (.ireturn, 1) := by decide +kernel
theorem d_Model_momentTold_11 : decode b_Model_momentTold 11 = .ok (.iload_n 2, 1) := by decide +kernel
theorem d_Model_momentTold_12 : decode b_Model_momentTold 12 = .ok (.tableswitch 82 0 5 #[40, 47, 54, 61, 68, 75], 40) := by decide +kernel
theorem d_Model_momentTold_52 : decode b_Model_momentTold 52 = .ok (.aload_n 0, 1) := by decide +kernel
theorem d_Model_momentTold_53 : decode b_Model_momentTold 53 = .ok (.getfield 19, 3) := by decide +kernel
theorem d_Model_momentTold_56 : decode b_Model_momentTold 56 = .ok (.iload_n 1, 1) := by decide +kernel
theorem d_Model_momentTold_57 : decode b_Model_momentTold 57 = .ok (.iaload, 1) := by decide +kernel
theorem d_Model_momentTold_58 : decode b_Model_momentTold 58 = .ok (.ireturn, 1) := by decide +kernel
theorem d_Model_momentTold_59 : decode b_Model_momentTold 59 = .ok (.aload_n 0, 1) := by decide +kernel
theorem d_Model_momentTold_60 : decode b_Model_momentTold 60 = .ok (.getfield 22, 3) := by decide +kernel
theorem d_Model_momentTold_63 : decode b_Model_momentTold 63 = .ok (.iload_n 1, 1) := by decide +kernel
theorem d_Model_momentTold_64 : decode b_Model_momentTold 64 = .ok (.iaload, 1) := by decide +kernel
theorem d_Model_momentTold_65 : decode b_Model_momentTold 65 = .ok (.ireturn, 1) := by decide +kernel
theorem d_Model_momentTold_66 : decode b_Model_momentTold 66 = .ok (.aload_n 0, 1) := by decide +kernel
theorem d_Model_momentTold_67 : decode b_Model_momentTold 67 = .ok (.getfield 25, 3) := by decide +kernel
theorem d_Model_momentTold_70 : decode b_Model_momentTold 70 = .ok (.iload_n 1, 1) := by decide +kernel
theorem d_Model_momentTold_71 : decode b_Model_momentTold 71 = .ok (.iaload, 1) := by decide +kernel
theorem d_Model_momentTold_72 : decode b_Model_momentTold 72 = .ok (.ireturn, 1) := by decide +kernel
theorem d_Model_momentTold_73 : decode b_Model_momentTold 73 = .ok (.aload_n 0, 1) := by decide +kernel
theorem d_Model_momentTold_74 : decode b_Model_momentTold 74 = .ok (.getfield 28, 3) := by decide +kernel
theorem d_Model_momentTold_77 : decode b_Model_momentTold 77 = .ok (.iload_n 1, 1) := by decide +kernel
theorem d_Model_momentTold_78 : decode b_Model_momentTold 78 = .ok (.iaload, 1) := by decide +kernel
theorem d_Model_momentTold_79 : decode b_Model_momentTold 79 = .ok (.ireturn, 1) := by decide +kernel
theorem d_Model_momentTold_80 : decode b_Model_momentTold 80 = .ok (.aload_n 0, 1) := by decide +kernel
theorem d_Model_momentTold_81 : decode b_Model_momentTold 81 = .ok (.getfield 31, 3) := by decide +kernel
theorem d_Model_momentTold_84 : decode b_Model_momentTold 84 = .ok (.iload_n 1, 1) := by decide +kernel
theorem d_Model_momentTold_85 : decode b_Model_momentTold 85 = .ok (.iaload, 1) := by decide +kernel
theorem d_Model_momentTold_86 : decode b_Model_momentTold 86 = .ok (.ireturn, 1) := by decide +kernel
theorem d_Model_momentTold_87 : decode b_Model_momentTold 87 = .ok (.aload_n 0, 1) := by decide +kernel
theorem d_Model_momentTold_88 : decode b_Model_momentTold 88 = .ok (.getfield 34, 3) := by decide +kernel
theorem d_Model_momentTold_91 : decode b_Model_momentTold 91 = .ok (.iload_n 1, 1) := by decide +kernel
theorem d_Model_momentTold_92 : decode b_Model_momentTold 92 = .ok (.iaload, 1) := by decide +kernel
theorem d_Model_momentTold_93 : decode b_Model_momentTold 93 = .ok (.ireturn, 1) := by decide +kernel
theorem d_Model_momentTold_94 : decode b_Model_momentTold 94 = .ok (.bipush (-7), 2) := by decide +kernel
theorem d_Model_momentTold_96 : decode b_Model_momentTold 96 = .ok (.ireturn, 1) := by decide +kernel
theorem v_Model_momentTold : dk_Yv y_Model_momentTold b_Model_momentTold 3 (some .int) 2 := ⟨dk_in (List.mem_of_getElem? (i := 1163) (by decide +kernel)) rfl, dk_in (List.mem_of_getElem? (i := 1164) (by decide +kernel)) rfl, dk_in (List.mem_of_getElem? (i := 75) (by decide +kernel)) rfl, dk_in (List.mem_of_getElem? (i := 1165) (by decide +kernel)) rfl, by decide +kernel, by decide +kernel, by decide +kernel⟩
abbrev rm_Model_momentTold : Room := { frames := 2, cells := 0, slots := 0, locals := 43 }
def B_Model_momentTold_0 (n : Nat)  (x1 : Int32) (x2 : Int32) (S : dk_S) : Option (Int32 × dk_S) :=
  dk_c (F_Model_isMoment n x1 S) fun r2 S1 => if ¬ r2 = 0 then (if x2 = (0 : Int32) then (dk_r 32 (S1 6) x1 fun v3 => some (v3, S1)) else (if x2 = (1 : Int32) then (dk_r 32 (S1 7) x1 fun v4 => some (v4, S1)) else (if x2 = (2 : Int32) then (dk_r 32 (S1 8) x1 fun v5 => some (v5, S1)) else (if x2 = (3 : Int32) then (dk_r 32 (S1 9) x1 fun v6 => some (v6, S1)) else (if x2 = (4 : Int32) then (dk_r 32 (S1 10) x1 fun v7 => some (v7, S1)) else (if x2 = (5 : Int32) then (dk_r 32 (S1 11) x1 fun v8 => some (v8, S1)) else (some ((-7 : Int32), S1)))))))) else (some ((-5 : Int32), S1))
set_option maxRecDepth 20000 in
theorem kb_Model_momentTold_0 {p : Program} {l : Launch} {e : Env} {s : State} {m : MethodId} {args : Array Value} {below : List Frame} {meth : Method} {c : Code} {g : dk_G} {A : Nat → Prop} {Q : State → Prop} {am : Nat → Nat} {n : Nat} {res : (Int32 × dk_S)} (X : dk_X p s m args meth c b_Model_momentTold 3 R_Model (some .int) g A) (hR : dk_Ri p l e rm_Model_momentTold s m args below meth c g A Q 3 b_Model_momentTold (some .int) (wM g am) res)  {x1 : Int32} {x2 : Int32} {S : dk_S}  (hF : B_Model_momentTold_0 n  x1 x2 S = some res) : dk_J p l e rm_Model_momentTold s m args below meth c g A Q 3 0 0 0 [(0, .ref (am 0)), (1, .int x1), (2, .int x2)] [] (wM g am S) := by
  unfold B_Model_momentTold_0 at hF
  refine dk_aload_n (k := 0) (i := 0) X 0 rfl rfl d_Model_momentTold_0 ?_
  refine dk_iload_n (k := 1) (i := 1) X 1 rfl rfl d_Model_momentTold_1 ?_
  refine dk_callVi X v_Model_isMoment [.int x1] (c_Model_isMoment l g am n x1 S) 0 (oM_Model g am S) rfl rfl m_Model_161 rfl rfl ⟨rfl, rfl, Nat.le_of_ble_eq_true rfl, Nat.le_of_ble_eq_true rfl, Nat.le_refl _, Nat.le_refl _⟩ (Nat.le_of_ble_eq_true rfl) d_Model_momentTold_2 hF (fun r2 S1 hF => ?_)
  refine dk_if_ne (tgt := 11) X (by decide) d_Model_momentTold_5 hF (fun hF => ?_) (fun hF => ?_)
  · refine dk_iload_n (k := 2) (i := 2) X 2 rfl rfl d_Model_momentTold_11 ?_
    refine dk_if hF (fun hc0 hF => ?_) (fun hc0 hF => ?_)
    · refine dk_tsIn (v := 0) (tgt := 52) X d_Model_momentTold_12 (by rw [hc0]; decide) (by decide) (by decide) rfl (by decide) ?_
      refine dk_aload_n (k := 0) (i := 0) X 0 rfl rfl d_Model_momentTold_52 ?_
      refine dk_get X q_Model 0 6 (by decide) (oM_Model g am S1) rfl f_Model_19 d_Model_momentTold_53 ?_
      refine dk_iload_n (k := 1) (i := 1) X 1 rfl rfl d_Model_momentTold_56 ?_
      refine dk_iald X 4 (aM_4 g am S1) d_Model_momentTold_57 hF (fun v3 hF => ?_)
      exact dk_reti hR hF d_Model_momentTold_58
    · refine dk_if hF (fun hc1 hF => ?_) (fun hc1 hF => ?_)
      · refine dk_tsIn (v := 1) (tgt := 59) X d_Model_momentTold_12 (by rw [hc1]; decide) (by decide) (by decide) rfl (by decide) ?_
        refine dk_aload_n (k := 0) (i := 0) X 0 rfl rfl d_Model_momentTold_59 ?_
        refine dk_get X q_Model 0 7 (by decide) (oM_Model g am S1) rfl f_Model_22 d_Model_momentTold_60 ?_
        refine dk_iload_n (k := 1) (i := 1) X 1 rfl rfl d_Model_momentTold_63 ?_
        refine dk_iald X 5 (aM_5 g am S1) d_Model_momentTold_64 hF (fun v4 hF => ?_)
        exact dk_reti hR hF d_Model_momentTold_65
      · refine dk_if hF (fun hc2 hF => ?_) (fun hc2 hF => ?_)
        · refine dk_tsIn (v := 2) (tgt := 66) X d_Model_momentTold_12 (by rw [hc2]; decide) (by decide) (by decide) rfl (by decide) ?_
          refine dk_aload_n (k := 0) (i := 0) X 0 rfl rfl d_Model_momentTold_66 ?_
          refine dk_get X q_Model 0 8 (by decide) (oM_Model g am S1) rfl f_Model_25 d_Model_momentTold_67 ?_
          refine dk_iload_n (k := 1) (i := 1) X 1 rfl rfl d_Model_momentTold_70 ?_
          refine dk_iald X 6 (aM_6 g am S1) d_Model_momentTold_71 hF (fun v5 hF => ?_)
          exact dk_reti hR hF d_Model_momentTold_72
        · refine dk_if hF (fun hc3 hF => ?_) (fun hc3 hF => ?_)
          · refine dk_tsIn (v := 3) (tgt := 73) X d_Model_momentTold_12 (by rw [hc3]; decide) (by decide) (by decide) rfl (by decide) ?_
            refine dk_aload_n (k := 0) (i := 0) X 0 rfl rfl d_Model_momentTold_73 ?_
            refine dk_get X q_Model 0 9 (by decide) (oM_Model g am S1) rfl f_Model_28 d_Model_momentTold_74 ?_
            refine dk_iload_n (k := 1) (i := 1) X 1 rfl rfl d_Model_momentTold_77 ?_
            refine dk_iald X 7 (aM_7 g am S1) d_Model_momentTold_78 hF (fun v6 hF => ?_)
            exact dk_reti hR hF d_Model_momentTold_79
          · refine dk_if hF (fun hc4 hF => ?_) (fun hc4 hF => ?_)
            · refine dk_tsIn (v := 4) (tgt := 80) X d_Model_momentTold_12 (by rw [hc4]; decide) (by decide) (by decide) rfl (by decide) ?_
              refine dk_aload_n (k := 0) (i := 0) X 0 rfl rfl d_Model_momentTold_80 ?_
              refine dk_get X q_Model 0 10 (by decide) (oM_Model g am S1) rfl f_Model_31 d_Model_momentTold_81 ?_
              refine dk_iload_n (k := 1) (i := 1) X 1 rfl rfl d_Model_momentTold_84 ?_
              refine dk_iald X 8 (aM_8 g am S1) d_Model_momentTold_85 hF (fun v7 hF => ?_)
              exact dk_reti hR hF d_Model_momentTold_86
            · refine dk_if hF (fun hc5 hF => ?_) (fun hc5 hF => ?_)
              · refine dk_tsIn (v := 5) (tgt := 87) X d_Model_momentTold_12 (by rw [hc5]; decide) (by decide) (by decide) rfl (by decide) ?_
                refine dk_aload_n (k := 0) (i := 0) X 0 rfl rfl d_Model_momentTold_87 ?_
                refine dk_get X q_Model 0 11 (by decide) (oM_Model g am S1) rfl f_Model_34 d_Model_momentTold_88 ?_
                refine dk_iload_n (k := 1) (i := 1) X 1 rfl rfl d_Model_momentTold_91 ?_
                refine dk_iald X 9 (aM_9 g am S1) d_Model_momentTold_92 hF (fun v8 hF => ?_)
                exact dk_reti hR hF d_Model_momentTold_93
              · refine dk_tsOut (tgt := 94) X d_Model_momentTold_12 (by have e0 := lv_neT hc0 (a := 0) (by decide); have e1 := lv_neT hc1 (a := 1) (by decide); have e2 := lv_neT hc2 (a := 2) (by decide); have e3 := lv_neT hc3 (a := 3) (by decide); have e4 := lv_neT hc4 (a := 4) (by decide); have e5 := lv_neT hc5 (a := 5) (by decide); omega) (by decide) ?_
                refine dk_bipush (v := -7) X (by decide) d_Model_momentTold_94 ?_
                exact dk_reti hR hF d_Model_momentTold_96
  · refine dk_bipush (v := -5) X (by decide) d_Model_momentTold_8 ?_
    exact dk_reti hR hF d_Model_momentTold_10
def F_Model_momentTold (n : Nat) (x1 : Int32) (x2 : Int32) (S : dk_S) : Option (Int32 × dk_S) := B_Model_momentTold_0 n x1 x2 S
theorem c_Model_momentTold (l : Launch) (g : dk_G) (am : Nat → Nat) (n : Nat) (x1 : Int32) (x2 : Int32)  (S : dk_S) : dk_Mi l g y_Model_momentTold b_Model_momentTold 3 rm_Model_momentTold (some .int) [.ref (am 0), .int x1, .int x2] (wM g am) S (F_Model_momentTold n x1 x2 S) := dk_enteri (by decide) (Nat.le_of_ble_eq_true rfl) (fun p e s m args below meth c A Q res hF X hR => (kb_Model_momentTold_0 (n := n) X hR  hF))
abbrev b_Model_feed : ByteArray := prog_11_method_16_code
def y_Model_feed : MethodName := ⟨R_Model, "feed", "(JI)I"⟩
theorem d_Model_feed_0 : decode b_Model_feed 0 = .ok (.iload_n 3, 1) := by decide +kernel
theorem d_Model_feed_1 : decode b_Model_feed 1 = .ok (.iconst 1, 1) := by decide +kernel
theorem d_Model_feed_2 : decode b_Model_feed 2 = .ok (.bipush 8, 2) := by decide +kernel
theorem d_Model_feed_4 : decode b_Model_feed 4 = .ok (.invokestatic 144, 3) := by decide +kernel
theorem d_Model_feed_7 : decode b_Model_feed 7 = .ok (.ifCond .ne 6, 3) := by decide +kernel
theorem d_Model_feed_10 : decode b_Model_feed 10 = .ok (.bipush (-2), 2) := by decide +kernel
theorem d_Model_feed_12 : decode b_Model_feed 12 = .ok (.ireturn, 1) := by decide +kernel
theorem d_Model_feed_13 : decode b_Model_feed 13 = .ok (.aload_n 0, 1) := by decide +kernel
theorem d_Model_feed_14 : decode b_Model_feed 14 = .ok (.getfield 168, 3) := by decide +kernel
theorem d_Model_feed_17 : decode b_Model_feed 17 = .ok (.iload_n 3, 1) := by decide +kernel
theorem d_Model_feed_18 : decode b_Model_feed 18 = .ok (.iadd, 1) := by decide +kernel
theorem d_Model_feed_19 : decode b_Model_feed 19 = .ok (.sipush 160, 3) := by decide +kernel
theorem d_Model_feed_22 : decode b_Model_feed 22 = .ok (.if_icmp .le 6, 3) := by decide +kernel
theorem d_Model_feed_25 : decode b_Model_feed 25 = .ok (.bipush (-4), 2) := by decide +kernel
theorem d_Model_feed_27 : decode b_Model_feed 27 = .ok (.ireturn, 1) := by decide +kernel
theorem d_Model_feed_28 : decode b_Model_feed 28 = .ok (.iload_n 3, 1) := by decide +kernel
theorem d_Model_feed_29 : decode b_Model_feed 29 = .ok (.iconst 1, 1) := by decide +kernel
theorem d_Model_feed_30 : decode b_Model_feed 30 = .ok (.isub, 1) := by decide +kernel
theorem d_Model_feed_31 : decode b_Model_feed 31 = .ok (.istore 4, 2) := by decide +kernel
theorem d_Model_feed_33 : decode b_Model_feed 33 = .ok (.iload 4, 2) := by decide +kernel
theorem d_Model_feed_35 : decode b_Model_feed 35 = .ok (.ifCond .lt 40, 3) := by decide +kernel
theorem d_Model_feed_38 : decode b_Model_feed 38 = .ok (.aload_n 0, 1) := by decide +kernel
theorem d_Model_feed_39 : decode b_Model_feed 39 = .ok (.getfield 37, 3) := by decide +kernel
theorem d_Model_feed_42 : decode b_Model_feed 42 = .ok (.aload_n 0, 1) := by decide +kernel
theorem d_Model_feed_43 : decode b_Model_feed 43 = .ok (.getfield 168, 3) := by decide +kernel
theorem d_Model_feed_46 : decode b_Model_feed 46 = .ok (.lload_n 1, 1) := by decide +kernel
theorem d_Model_feed_47 : decode b_Model_feed 47 = .ok (.bipush 8, 2) := by decide +kernel
theorem d_Model_feed_49 : decode b_Model_feed 49 = .ok (.iload 4, 2) := by decide +kernel
theorem d_Model_feed_51 : decode b_Model_feed 51 = .ok (.imul, 1) := by decide +kernel
theorem d_Model_feed_52 : decode b_Model_feed 52 = .ok (.lshr, 1) := by decide +kernel
theorem d_Model_feed_53 : decode b_Model_feed 53 = .ok (.ldc2_w 171, 3) := by decide +kernel
theorem d_Model_feed_56 : decode b_Model_feed 56 = .ok (.land, 1) := by decide +kernel
theorem d_Model_feed_57 : decode b_Model_feed 57 = .ok (.l2i, 1) := by decide +kernel
theorem d_Model_feed_58 : decode b_Model_feed 58 = .ok (.iastore, 1) := by decide +kernel
theorem d_Model_feed_59 : decode b_Model_feed 59 = .ok (.aload_n 0, 1) := by decide +kernel
theorem d_Model_feed_60 : decode b_Model_feed 60 = .ok (.dup, 1) := by decide +kernel
theorem d_Model_feed_61 : decode b_Model_feed 61 = .ok (.getfield 168, 3) := by decide +kernel
theorem d_Model_feed_64 : decode b_Model_feed 64 = .ok (.iconst 1, 1) := by decide +kernel
theorem d_Model_feed_65 : decode b_Model_feed 65 = .ok (.iadd, 1) := by decide +kernel
theorem d_Model_feed_66 : decode b_Model_feed 66 = .ok (.putfield 168, 3) := by decide +kernel
theorem d_Model_feed_69 : decode b_Model_feed 69 = .ok (.iinc 4 (-1), 3) := by decide +kernel
theorem d_Model_feed_72 : decode b_Model_feed 72 = .ok (.goto (-39), 3) := by decide +kernel
theorem d_Model_feed_75 : decode b_Model_feed 75 = .ok (.aload_n 0, 1) := by decide +kernel
theorem d_Model_feed_76 : decode b_Model_feed 76 = .ok (.getfield 168, 3) := by decide +kernel
theorem d_Model_feed_79 : decode b_Model_feed 79 = .ok (.ireturn, 1) := by decide +kernel
theorem v_Model_feed : dk_Yv y_Model_feed b_Model_feed 5 (some .int) 2 := ⟨dk_in (List.mem_of_getElem? (i := 1167) (by decide +kernel)) rfl, dk_in (List.mem_of_getElem? (i := 1168) (by decide +kernel)) rfl, dk_in (List.mem_of_getElem? (i := 75) (by decide +kernel)) rfl, dk_in (List.mem_of_getElem? (i := 1169) (by decide +kernel)) rfl, by decide +kernel, by decide +kernel, by decide +kernel⟩
abbrev rm_Model_feed : Room := { frames := 1, cells := 0, slots := 0, locals := 22 }
theorem f_Model_168 : Cond.fieldLink R_Model 168 (T_Model 13).1 (T_Model 13).2.1 (T_Model 13).2.2.1 ∈ dk_tb := dk_in (List.mem_of_getElem? (i := 977) (by decide +kernel)) rfl
theorem f_Model_37 : Cond.fieldLink R_Model 37 (T_Model 12).1 (T_Model 12).2.1 (T_Model 12).2.2.1 ∈ dk_tb := dk_in (List.mem_of_getElem? (i := 976) (by decide +kernel)) rfl
theorem k_Model_171 : Cond.constantLong R_Model 171 (255) ∈ dk_tb := dk_in (List.mem_of_getElem? (i := 1170) (by decide +kernel)) rfl
def B_Model_feed_33b (n : Nat) (k33 : Int64 → Int32 → dk_S → Option (Int32 × dk_S)) (x1 : Int64) (x4 : Int32) (S : dk_S) : Option (Int32 × dk_S) :=
  if x4 < 0 then (some ((S 13 0), S)) else (dk_w S 12 160 (S 13 0) ((x1 >>> (((8 : Int32) * x4).toInt64 &&& 63)) &&& (255 : Int64)).toInt32 fun S1 => dk_p S1 13 ((S1 13 0) + (1 : Int32)) fun S2 => k33 x1 (x4 + (-1 : Int32)) S2)
set_option maxRecDepth 20000 in
theorem kb_Model_feed_33b {p : Program} {l : Launch} {e : Env} {s : State} {m : MethodId} {args : Array Value} {below : List Frame} {meth : Method} {c : Code} {g : dk_G} {A : Nat → Prop} {Q : State → Prop} {am : Nat → Nat} {n : Nat} {res : (Int32 × dk_S)} (X : dk_X p s m args meth c b_Model_feed 5 R_Model (some .int) g A) (hR : dk_Ri p l e rm_Model_feed s m args below meth c g A Q 5 b_Model_feed (some .int) (wM g am) res) {k33 : Int64 → Int32 → dk_S → Option (Int32 × dk_S)} (hk33 : ∀ (x1 : Int64) (x4 : Int32)  (S : dk_S), k33 x1 x4 S = some res → dk_J p l e rm_Model_feed s m args below meth c g A Q 5 0 0 33 [(0, .ref (am 0)), (1, .long x1), (4, .int x4)] [] (wM g am S)) {x1 : Int64} {x4 : Int32} {S : dk_S}  (hF : B_Model_feed_33b n k33 x1 x4 S = some res) : dk_J p l e rm_Model_feed s m args below meth c g A Q 5 0 0 33 [(0, .ref (am 0)), (1, .long x1), (4, .int x4)] [] (wM g am S) := by
  unfold B_Model_feed_33b at hF
  refine dk_iload (i := 4) X 2 rfl d_Model_feed_33 ?_
  refine dk_if_lt (tgt := 75) X (by decide) d_Model_feed_35 hF (fun hF => ?_) (fun hF => ?_)
  · refine dk_aload_n (k := 0) (i := 0) X 0 rfl rfl d_Model_feed_75 ?_
    refine dk_get X q_Model 0 13 (by decide) (oM_Model g am S) rfl f_Model_168 d_Model_feed_76 ?_
    exact dk_reti hR hF d_Model_feed_79
  · refine dk_aload_n (k := 0) (i := 0) X 0 rfl rfl d_Model_feed_38 ?_
    refine dk_get X q_Model 0 12 (by decide) (oM_Model g am S) rfl f_Model_37 d_Model_feed_39 ?_
    refine dk_aload_n (k := 0) (i := 0) X 0 rfl rfl d_Model_feed_42 ?_
    refine dk_get X q_Model 0 13 (by decide) (oM_Model g am S) rfl f_Model_168 d_Model_feed_43 ?_
    refine dk_lload_n (k := 1) (i := 1) X 1 rfl rfl d_Model_feed_46 ?_
    refine dk_bipush (v := 8) X (by decide) d_Model_feed_47 ?_
    refine dk_iload (i := 4) X 2 rfl d_Model_feed_49 ?_
    refine dk_imul X d_Model_feed_51 ?_
    refine dk_lshr X d_Model_feed_52 ?_
    refine dk_ldc2 (v := 255) X k_Model_171 d_Model_feed_53 ?_
    refine dk_land X d_Model_feed_56 ?_
    refine dk_l2i X d_Model_feed_57 ?_
    refine dk_iast X 10 (aM_10 g am S) (sM_10 g am S _ _) d_Model_feed_58 hF (fun S1 hF => ?_)
    refine dk_aload_n (k := 0) (i := 0) X 0 rfl rfl d_Model_feed_59 ?_
    refine dk_dup X rfl d_Model_feed_60 ?_
    refine dk_get X q_Model 0 13 (by decide) (oM_Model g am S1) rfl f_Model_168 d_Model_feed_61 ?_
    refine dk_iconst (v := 1) X (by decide) d_Model_feed_64 ?_
    refine dk_iadd X d_Model_feed_65 ?_
    refine dk_puti X q_Model 0 13 (by decide) (oM_Model g am S1) f_Model_168 rfl rfl (Nat.le_of_ble_eq_true rfl) (sM_Model_taped g am S1 _) d_Model_feed_66 hF (fun S2 hF => ?_)
    refine dk_iinc (i := 4) (v := (x4 + (-1 : Int32))) (lv' := [(4, .int (x4 + (-1 : Int32))), (0, .ref (am 0)), (1, .long x1)]) X 2 rfl (dk_ii _ (by decide)) (by decide) rfl d_Model_feed_69 ?_
    refine dk_goto (tgt := 33) X (by decide) d_Model_feed_72 ?_
    exact dk_sub [1, 2, 0] rfl (hk33 x1 (x4 + (-1 : Int32)) S2 hF)
def B_Model_feed_33 (n : Nat)  : Nat → Int64 → Int32 → dk_S → Option (Int32 × dk_S)
  | 0 => fun _ _ _ => none
  | q + 1 => fun x1 x4 S => B_Model_feed_33b n (fun x1 x4 S => B_Model_feed_33 n  q x1 x4 S) x1 x4 S
theorem kb_Model_feed_33 {p : Program} {l : Launch} {e : Env} {s : State} {m : MethodId} {args : Array Value} {below : List Frame} {meth : Method} {c : Code} {g : dk_G} {A : Nat → Prop} {Q : State → Prop} {am : Nat → Nat} {n : Nat} {res : (Int32 × dk_S)} (X : dk_X p s m args meth c b_Model_feed 5 R_Model (some .int) g A) (hR : dk_Ri p l e rm_Model_feed s m args below meth c g A Q 5 b_Model_feed (some .int) (wM g am) res)  : ∀ (q : Nat) (x1 : Int64) (x4 : Int32)  (S : dk_S), B_Model_feed_33 n  q x1 x4 S = some res → dk_J p l e rm_Model_feed s m args below meth c g A Q 5 0 0 33 [(0, .ref (am 0)), (1, .long x1), (4, .int x4)] [] (wM g am S) := by
  intro q
  induction q with
  | zero => intro x1 x4  S hF; cases hF
  | succ q ih => intro x1 x4  S hF; exact kb_Model_feed_33b (n := n) X hR ih  hF
def B_Model_feed_0 (n : Nat)  (x1 : Int64) (x3 : Int32) (S : dk_S) : Option (Int32 × dk_S) :=
  dk_c (F_Model_in n x3 (1 : Int32) (8 : Int32) S) fun r4 S3 => if ¬ r4 = 0 then (if ((S3 13 0) + x3) ≤ (160 : Int32) then (B_Model_feed_33 n  n x1 (x3 - (1 : Int32)) S3) else (some ((-4 : Int32), S3))) else (some ((-2 : Int32), S3))
set_option maxRecDepth 20000 in
theorem kb_Model_feed_0 {p : Program} {l : Launch} {e : Env} {s : State} {m : MethodId} {args : Array Value} {below : List Frame} {meth : Method} {c : Code} {g : dk_G} {A : Nat → Prop} {Q : State → Prop} {am : Nat → Nat} {n : Nat} {res : (Int32 × dk_S)} (X : dk_X p s m args meth c b_Model_feed 5 R_Model (some .int) g A) (hR : dk_Ri p l e rm_Model_feed s m args below meth c g A Q 5 b_Model_feed (some .int) (wM g am) res)  {x1 : Int64} {x3 : Int32} {S : dk_S}  (hF : B_Model_feed_0 n  x1 x3 S = some res) : dk_J p l e rm_Model_feed s m args below meth c g A Q 5 0 0 0 [(0, .ref (am 0)), (1, .long x1), (3, .int x3)] [] (wM g am S) := by
  unfold B_Model_feed_0 at hF
  refine dk_iload_n (k := 3) (i := 3) X 2 rfl rfl d_Model_feed_0 ?_
  refine dk_iconst (v := 1) X (by decide) d_Model_feed_1 ?_
  refine dk_bipush (v := 8) X (by decide) d_Model_feed_2 ?_
  refine dk_callSi X v_Model_in [.int x3, .int (1 : Int32), .int (8 : Int32)] (c_Model_in l g am n x3 (1 : Int32) (8 : Int32) S) m_Model_144 rfl rfl ⟨rfl, rfl, Nat.le_of_ble_eq_true rfl, Nat.le_of_ble_eq_true rfl, Nat.le_refl _, Nat.le_refl _⟩ (Nat.le_of_ble_eq_true rfl) d_Model_feed_4 hF (fun r4 S3 hF => ?_)
  refine dk_if_ne (tgt := 13) X (by decide) d_Model_feed_7 hF (fun hF => ?_) (fun hF => ?_)
  · refine dk_aload_n (k := 0) (i := 0) X 0 rfl rfl d_Model_feed_13 ?_
    refine dk_get X q_Model 0 13 (by decide) (oM_Model g am S3) rfl f_Model_168 d_Model_feed_14 ?_
    refine dk_iload_n (k := 3) (i := 3) X 2 rfl rfl d_Model_feed_17 ?_
    refine dk_iadd X d_Model_feed_18 ?_
    refine dk_sipush (v := 160) X (by decide) d_Model_feed_19 ?_
    refine dk_icmp_le (tgt := 28) X (by decide) d_Model_feed_22 hF (fun hF => ?_) (fun hF => ?_)
    · refine dk_iload_n (k := 3) (i := 3) X 2 rfl rfl d_Model_feed_28 ?_
      refine dk_iconst (v := 1) X (by decide) d_Model_feed_29 ?_
      refine dk_isub X d_Model_feed_30 ?_
      refine dk_istore (i := 4) (lv' := [(4, .int (x3 - (1 : Int32))), (0, .ref (am 0)), (1, .long x1), (3, .int x3)]) X (by decide) rfl d_Model_feed_31 ?_
      exact dk_sub [1, 2, 0] rfl (kb_Model_feed_33 (n := n) X hR  n x1 (x3 - (1 : Int32)) S3 hF)
    · refine dk_bipush (v := -4) X (by decide) d_Model_feed_25 ?_
      exact dk_reti hR hF d_Model_feed_27
  · refine dk_bipush (v := -2) X (by decide) d_Model_feed_10 ?_
    exact dk_reti hR hF d_Model_feed_12
def F_Model_feed (n : Nat) (x1 : Int64) (x3 : Int32) (S : dk_S) : Option (Int32 × dk_S) := B_Model_feed_0 n x1 x3 S
theorem c_Model_feed (l : Launch) (g : dk_G) (am : Nat → Nat) (n : Nat) (x1 : Int64) (x3 : Int32)  (S : dk_S) : dk_Mi l g y_Model_feed b_Model_feed 5 rm_Model_feed (some .int) [.ref (am 0), .long x1, .int x3] (wM g am) S (F_Model_feed n x1 x3 S) := dk_enteri (by decide) (Nat.le_of_ble_eq_true rfl) (fun p e s m args below meth c A Q res hF X hR => (kb_Model_feed_0 (n := n) X hR  hF))
abbrev b_Model_holds : ByteArray := prog_11_method_22_code
def y_Model_holds : MethodName := ⟨R_Model, "holds", "(I)V"⟩
theorem d_Model_holds_0 : decode b_Model_holds 0 = .ok (.aload_n 0, 1) := by decide +kernel
theorem d_Model_holds_1 : decode b_Model_holds 1 = .ok (.getfield 125, 3) := by decide +kernel
theorem d_Model_holds_4 : decode b_Model_holds 4 = .ok (.aload_n 0, 1) := by decide +kernel
theorem d_Model_holds_5 : decode b_Model_holds 5 = .ok (.getfield 192, 3) := by decide +kernel
theorem d_Model_holds_8 : decode b_Model_holds 8 = .ok (.iload_n 1, 1) := by decide +kernel
theorem d_Model_holds_9 : decode b_Model_holds 9 = .ok (.iastore, 1) := by decide +kernel
theorem d_Model_holds_10 : decode b_Model_holds 10 = .ok (.aload_n 0, 1) := by decide +kernel
theorem d_Model_holds_11 : decode b_Model_holds 11 = .ok (.dup, 1) := by decide +kernel
theorem d_Model_holds_12 : decode b_Model_holds 12 = .ok (.getfield 192, 3) := by decide +kernel
theorem d_Model_holds_15 : decode b_Model_holds 15 = .ok (.iconst 1, 1) := by decide +kernel
theorem d_Model_holds_16 : decode b_Model_holds 16 = .ok (.iadd, 1) := by decide +kernel
theorem d_Model_holds_17 : decode b_Model_holds 17 = .ok (.putfield 192, 3) := by decide +kernel
theorem d_Model_holds_20 : decode b_Model_holds 20 = .ok (.return_, 1) := by decide +kernel
theorem v_Model_holds : dk_Yv y_Model_holds b_Model_holds 2 (none) 1 := ⟨dk_in (List.mem_of_getElem? (i := 1205) (by decide +kernel)) rfl, dk_in (List.mem_of_getElem? (i := 43) (by decide +kernel)) rfl, dk_in (List.mem_of_getElem? (i := 75) (by decide +kernel)) rfl, dk_in (List.mem_of_getElem? (i := 1206) (by decide +kernel)) rfl, by decide +kernel, by decide +kernel, by decide +kernel⟩
abbrev rm_Model_holds : Room := { frames := 0, cells := 0, slots := 0, locals := 0 }
theorem f_Model_125 : Cond.fieldLink R_Model 125 (T_Model 45).1 (T_Model 45).2.1 (T_Model 45).2.2.1 ∈ dk_tb := dk_in (List.mem_of_getElem? (i := 1009) (by decide +kernel)) rfl
theorem f_Model_192 : Cond.fieldLink R_Model 192 (T_Model 46).1 (T_Model 46).2.1 (T_Model 46).2.2.1 ∈ dk_tb := dk_in (List.mem_of_getElem? (i := 1010) (by decide +kernel)) rfl
def B_Model_holds_0 (n : Nat)  (x1 : Int32) (S : dk_S) : Option dk_S :=
  dk_w S 45 200 (S 46 0) x1 fun S1 => dk_p S1 46 ((S1 46 0) + (1 : Int32)) fun S2 => some S2
set_option maxRecDepth 20000 in
theorem kb_Model_holds_0 {p : Program} {l : Launch} {e : Env} {s : State} {m : MethodId} {args : Array Value} {below : List Frame} {meth : Method} {c : Code} {g : dk_G} {A : Nat → Prop} {Q : State → Prop} {am : Nat → Nat} {n : Nat} {res : dk_S} (X : dk_X p s m args meth c b_Model_holds 2 R_Model (none) g A) (hR : dk_Rv p l e rm_Model_holds s m args below meth c g A Q 2 b_Model_holds (none) (wM g am) res)  {x1 : Int32} {S : dk_S}  (hF : B_Model_holds_0 n  x1 S = some res) : dk_J p l e rm_Model_holds s m args below meth c g A Q 2 0 0 0 [(0, .ref (am 0)), (1, .int x1)] [] (wM g am S) := by
  unfold B_Model_holds_0 at hF
  refine dk_aload_n (k := 0) (i := 0) X 0 rfl rfl d_Model_holds_0 ?_
  refine dk_get X q_Model 0 45 (by decide) (oM_Model g am S) rfl f_Model_125 d_Model_holds_1 ?_
  refine dk_aload_n (k := 0) (i := 0) X 0 rfl rfl d_Model_holds_4 ?_
  refine dk_get X q_Model 0 46 (by decide) (oM_Model g am S) rfl f_Model_192 d_Model_holds_5 ?_
  refine dk_iload_n (k := 1) (i := 1) X 1 rfl rfl d_Model_holds_8 ?_
  refine dk_iast X 30 (aM_30 g am S) (sM_30 g am S _ _) d_Model_holds_9 hF (fun S1 hF => ?_)
  refine dk_aload_n (k := 0) (i := 0) X 0 rfl rfl d_Model_holds_10 ?_
  refine dk_dup X rfl d_Model_holds_11 ?_
  refine dk_get X q_Model 0 46 (by decide) (oM_Model g am S1) rfl f_Model_192 d_Model_holds_12 ?_
  refine dk_iconst (v := 1) X (by decide) d_Model_holds_15 ?_
  refine dk_iadd X d_Model_holds_16 ?_
  refine dk_puti X q_Model 0 46 (by decide) (oM_Model g am S1) f_Model_192 rfl rfl (Nat.le_of_ble_eq_true rfl) (sM_Model_heldMany g am S1 _) d_Model_holds_17 hF (fun S2 hF => ?_)
  exact dk_retv hR hF d_Model_holds_20
def F_Model_holds (n : Nat) (x1 : Int32) (S : dk_S) : Option dk_S := B_Model_holds_0 n x1 S
theorem c_Model_holds (l : Launch) (g : dk_G) (am : Nat → Nat) (n : Nat) (x1 : Int32)  (S : dk_S) : dk_Mv l g y_Model_holds b_Model_holds 2 rm_Model_holds (none) [.ref (am 0), .int x1] (wM g am) S (F_Model_holds n x1 S) := dk_enterv (by decide) rfl (Nat.le_of_ble_eq_true rfl) (fun p e s m args below meth c A Q res hF X hR => (kb_Model_holds_0 (n := n) X hR  hF))
abbrev b_Model_rank : ByteArray := prog_11_method_19_code
def y_Model_rank : MethodName := ⟨R_Model, "rank", "(I)I"⟩
theorem d_Model_rank_0 : decode b_Model_rank 0 = .ok (.iload_n 0, 1) := by decide +kernel
theorem d_Model_rank_1 : decode b_Model_rank 1 = .ok (.ifCond .ne 7, 3) := by decide +kernel
theorem d_Model_rank_4 : decode b_Model_rank 4 = .ok (.iconst 0, 1) := by decide +kernel
theorem d_Model_rank_5 : decode b_Model_rank 5 = .ok (.goto 66, 3) := by decide +kernel
theorem d_Model_rank_8 : decode b_Model_rank 8 = .ok (.iload_n 0, 1) := by decide +kernel
theorem d_Model_rank_9 : decode b_Model_rank 9 = .ok (.bipush 11, 2) := by decide +kernel
theorem d_Model_rank_11 : decode b_Model_rank 11 = .ok (.if_icmp .ne 7, 3) := by decide +kernel
theorem d_Model_rank_14 : decode b_Model_rank 14 = .ok (.iconst 1, 1) := by decide +kernel
theorem d_Model_rank_15 : decode b_Model_rank 15 = .ok (.goto 56, 3) := by decide +kernel
theorem d_Model_rank_18 : decode b_Model_rank 18 = .ok (.iload_n 0, 1) := by decide +kernel
theorem d_Model_rank_19 : decode b_Model_rank 19 = .ok (.bipush 12, 2) := by decide +kernel
theorem d_Model_rank_21 : decode b_Model_rank 21 = .ok (.if_icmp .ne 7, 3) := by decide +kernel
theorem d_Model_rank_24 : decode b_Model_rank 24 = .ok (.iconst 2, 1) := by decide +kernel
theorem d_Model_rank_25 : decode b_Model_rank 25 = .ok (.goto 46, 3) := by decide +kernel
theorem d_Model_rank_28 : decode b_Model_rank 28 = .ok (.iload_n 0, 1) := by decide +kernel
theorem d_Model_rank_29 : decode b_Model_rank 29 = .ok (.bipush 13, 2) := by decide +kernel
theorem d_Model_rank_31 : decode b_Model_rank 31 = .ok (.if_icmp .ne 7, 3) := by decide +kernel
theorem d_Model_rank_34 : decode b_Model_rank 34 = .ok (.iconst 3, 1) := by decide +kernel
theorem d_Model_rank_35 : decode b_Model_rank 35 = .ok (.goto 36, 3) := by decide +kernel
theorem d_Model_rank_38 : decode b_Model_rank 38 = .ok (.iload_n 0, 1) := by decide +kernel
theorem d_Model_rank_39 : decode b_Model_rank 39 = .ok (.bipush 15, 2) := by decide +kernel
theorem d_Model_rank_41 : decode b_Model_rank 41 = .ok (.if_icmp .gt 7, 3) := by decide +kernel
theorem d_Model_rank_44 : decode b_Model_rank 44 = .ok (.iconst 4, 1) := by decide +kernel
theorem d_Model_rank_45 : decode b_Model_rank 45 = .ok (.goto 26, 3) := by decide +kernel
theorem d_Model_rank_48 : decode b_Model_rank 48 = .ok (.iload_n 0, 1) := by decide +kernel
theorem d_Model_rank_49 : decode b_Model_rank 49 = .ok (.bipush 17, 2) := by decide +kernel
theorem d_Model_rank_51 : decode b_Model_rank 51 = .ok (.if_icmp .gt 7, 3) := by decide +kernel
theorem d_Model_rank_54 : decode b_Model_rank 54 = .ok (.iconst 5, 1) := by decide +kernel
theorem d_Model_rank_55 : decode b_Model_rank 55 = .ok (.goto 16, 3) := by decide +kernel
theorem d_Model_rank_58 : decode b_Model_rank 58 = .ok (.iload_n 0, 1) := by decide +kernel
theorem d_Model_rank_59 : decode b_Model_rank 59 = .ok (.bipush 18, 2) := by decide +kernel
theorem d_Model_rank_61 : decode b_Model_rank 61 = .ok (.if_icmp .ne 8, 3) := by decide +kernel
theorem d_Model_rank_64 : decode b_Model_rank 64 = .ok (.bipush 6, 2) := by decide +kernel
theorem d_Model_rank_66 : decode b_Model_rank 66 = .ok (.goto 5, 3) := by decide +kernel
theorem d_Model_rank_69 : decode b_Model_rank 69 = .ok (.bipush 7, 2) := by decide +kernel
theorem d_Model_rank_71 : decode b_Model_rank 71 = .ok (.ireturn, 1) := by decide +kernel
theorem v_Model_rank : dk_Ys y_Model_rank b_Model_rank 1 (some .int) 1 := ⟨dk_in (List.mem_of_getElem? (i := 1197) (by decide +kernel)) rfl, dk_in (List.mem_of_getElem? (i := 75) (by decide +kernel)) rfl, dk_in (List.mem_of_getElem? (i := 1198) (by decide +kernel)) rfl, by decide +kernel, by decide +kernel, by decide +kernel⟩
abbrev rm_Model_rank : Room := { frames := 0, cells := 0, slots := 0, locals := 0 }
def B_Model_rank_0 (n : Nat)  (x0 : Int32) (S : dk_S) : Option (Int32 × dk_S) :=
  if ¬ x0 = 0 then (if ¬ x0 = (11 : Int32) then (if ¬ x0 = (12 : Int32) then (if ¬ x0 = (13 : Int32) then (if (15 : Int32) < x0 then (if (17 : Int32) < x0 then (if ¬ x0 = (18 : Int32) then (some ((7 : Int32), S)) else (some ((6 : Int32), S))) else (some ((5 : Int32), S))) else (some ((4 : Int32), S))) else (some ((3 : Int32), S))) else (some ((2 : Int32), S))) else (some ((1 : Int32), S))) else (some ((0 : Int32), S))
set_option maxRecDepth 20000 in
theorem kb_Model_rank_0 {p : Program} {l : Launch} {e : Env} {s : State} {m : MethodId} {args : Array Value} {below : List Frame} {meth : Method} {c : Code} {g : dk_G} {A : Nat → Prop} {Q : State → Prop} {am : Nat → Nat} {n : Nat} {res : (Int32 × dk_S)} (X : dk_X p s m args meth c b_Model_rank 1 R_Model (some .int) g A) (hR : dk_Ri p l e rm_Model_rank s m args below meth c g A Q 1 b_Model_rank (some .int) (wM g am) res)  {x0 : Int32} {S : dk_S}  (hF : B_Model_rank_0 n  x0 S = some res) : dk_J p l e rm_Model_rank s m args below meth c g A Q 1 0 0 0 [(0, .int x0)] [] (wM g am S) := by
  unfold B_Model_rank_0 at hF
  refine dk_iload_n (k := 0) (i := 0) X 0 rfl rfl d_Model_rank_0 ?_
  refine dk_if_ne (tgt := 8) X (by decide) d_Model_rank_1 hF (fun hF => ?_) (fun hF => ?_)
  · refine dk_iload_n (k := 0) (i := 0) X 0 rfl rfl d_Model_rank_8 ?_
    refine dk_bipush (v := 11) X (by decide) d_Model_rank_9 ?_
    refine dk_icmp_ne (tgt := 18) X (by decide) d_Model_rank_11 hF (fun hF => ?_) (fun hF => ?_)
    · refine dk_iload_n (k := 0) (i := 0) X 0 rfl rfl d_Model_rank_18 ?_
      refine dk_bipush (v := 12) X (by decide) d_Model_rank_19 ?_
      refine dk_icmp_ne (tgt := 28) X (by decide) d_Model_rank_21 hF (fun hF => ?_) (fun hF => ?_)
      · refine dk_iload_n (k := 0) (i := 0) X 0 rfl rfl d_Model_rank_28 ?_
        refine dk_bipush (v := 13) X (by decide) d_Model_rank_29 ?_
        refine dk_icmp_ne (tgt := 38) X (by decide) d_Model_rank_31 hF (fun hF => ?_) (fun hF => ?_)
        · refine dk_iload_n (k := 0) (i := 0) X 0 rfl rfl d_Model_rank_38 ?_
          refine dk_bipush (v := 15) X (by decide) d_Model_rank_39 ?_
          refine dk_icmp_gt (tgt := 48) X (by decide) d_Model_rank_41 hF (fun hF => ?_) (fun hF => ?_)
          · refine dk_iload_n (k := 0) (i := 0) X 0 rfl rfl d_Model_rank_48 ?_
            refine dk_bipush (v := 17) X (by decide) d_Model_rank_49 ?_
            refine dk_icmp_gt (tgt := 58) X (by decide) d_Model_rank_51 hF (fun hF => ?_) (fun hF => ?_)
            · refine dk_iload_n (k := 0) (i := 0) X 0 rfl rfl d_Model_rank_58 ?_
              refine dk_bipush (v := 18) X (by decide) d_Model_rank_59 ?_
              refine dk_icmp_ne (tgt := 69) X (by decide) d_Model_rank_61 hF (fun hF => ?_) (fun hF => ?_)
              · refine dk_bipush (v := 7) X (by decide) d_Model_rank_69 ?_
                exact dk_reti hR hF d_Model_rank_71
              · refine dk_bipush (v := 6) X (by decide) d_Model_rank_64 ?_
                refine dk_goto (tgt := 71) X (by decide) d_Model_rank_66 ?_
                exact dk_reti hR hF d_Model_rank_71
            · refine dk_iconst (v := 5) X (by decide) d_Model_rank_54 ?_
              refine dk_goto (tgt := 71) X (by decide) d_Model_rank_55 ?_
              exact dk_reti hR hF d_Model_rank_71
          · refine dk_iconst (v := 4) X (by decide) d_Model_rank_44 ?_
            refine dk_goto (tgt := 71) X (by decide) d_Model_rank_45 ?_
            exact dk_reti hR hF d_Model_rank_71
        · refine dk_iconst (v := 3) X (by decide) d_Model_rank_34 ?_
          refine dk_goto (tgt := 71) X (by decide) d_Model_rank_35 ?_
          exact dk_reti hR hF d_Model_rank_71
      · refine dk_iconst (v := 2) X (by decide) d_Model_rank_24 ?_
        refine dk_goto (tgt := 71) X (by decide) d_Model_rank_25 ?_
        exact dk_reti hR hF d_Model_rank_71
    · refine dk_iconst (v := 1) X (by decide) d_Model_rank_14 ?_
      refine dk_goto (tgt := 71) X (by decide) d_Model_rank_15 ?_
      exact dk_reti hR hF d_Model_rank_71
  · refine dk_iconst (v := 0) X (by decide) d_Model_rank_4 ?_
    refine dk_goto (tgt := 71) X (by decide) d_Model_rank_5 ?_
    exact dk_reti hR hF d_Model_rank_71
def F_Model_rank (n : Nat) (x0 : Int32) (S : dk_S) : Option (Int32 × dk_S) := B_Model_rank_0 n x0 S
theorem c_Model_rank (l : Launch) (g : dk_G) (am : Nat → Nat) (n : Nat) (x0 : Int32)  (S : dk_S) : dk_Mi l g y_Model_rank b_Model_rank 1 rm_Model_rank (some .int) [.int x0] (wM g am) S (F_Model_rank n x0 S) := dk_enteri (by decide) (Nat.le_of_ble_eq_true rfl) (fun p e s m args below meth c A Q res hF X hR => (kb_Model_rank_0 (n := n) X hR  hF))
abbrev b_Model_puts : ByteArray := prog_11_method_20_code
def y_Model_puts : MethodName := ⟨R_Model, "puts", "(I)V"⟩
theorem d_Model_puts_0 : decode b_Model_puts 0 = .ok (.aload_n 0, 1) := by decide +kernel
theorem d_Model_puts_1 : decode b_Model_puts 1 = .ok (.getfield 40, 3) := by decide +kernel
theorem d_Model_puts_4 : decode b_Model_puts 4 = .ok (.sipush 200, 3) := by decide +kernel
theorem d_Model_puts_7 : decode b_Model_puts 7 = .ok (.aload_n 0, 1) := by decide +kernel
theorem d_Model_puts_8 : decode b_Model_puts 8 = .ok (.getfield 46, 3) := by decide +kernel
theorem d_Model_puts_11 : decode b_Model_puts 11 = .ok (.imul, 1) := by decide +kernel
theorem d_Model_puts_12 : decode b_Model_puts 12 = .ok (.aload_n 0, 1) := by decide +kernel
theorem d_Model_puts_13 : decode b_Model_puts 13 = .ok (.getfield 189, 3) := by decide +kernel
theorem d_Model_puts_16 : decode b_Model_puts 16 = .ok (.iadd, 1) := by decide +kernel
theorem d_Model_puts_17 : decode b_Model_puts 17 = .ok (.iload_n 1, 1) := by decide +kernel
theorem d_Model_puts_18 : decode b_Model_puts 18 = .ok (.iastore, 1) := by decide +kernel
theorem d_Model_puts_19 : decode b_Model_puts 19 = .ok (.aload_n 0, 1) := by decide +kernel
theorem d_Model_puts_20 : decode b_Model_puts 20 = .ok (.dup, 1) := by decide +kernel
theorem d_Model_puts_21 : decode b_Model_puts 21 = .ok (.getfield 189, 3) := by decide +kernel
theorem d_Model_puts_24 : decode b_Model_puts 24 = .ok (.iconst 1, 1) := by decide +kernel
theorem d_Model_puts_25 : decode b_Model_puts 25 = .ok (.iadd, 1) := by decide +kernel
theorem d_Model_puts_26 : decode b_Model_puts 26 = .ok (.putfield 189, 3) := by decide +kernel
theorem d_Model_puts_29 : decode b_Model_puts 29 = .ok (.return_, 1) := by decide +kernel
theorem v_Model_puts : dk_Yv y_Model_puts b_Model_puts 2 (none) 1 := ⟨dk_in (List.mem_of_getElem? (i := 1190) (by decide +kernel)) rfl, dk_in (List.mem_of_getElem? (i := 40) (by decide +kernel)) rfl, dk_in (List.mem_of_getElem? (i := 75) (by decide +kernel)) rfl, dk_in (List.mem_of_getElem? (i := 1191) (by decide +kernel)) rfl, by decide +kernel, by decide +kernel, by decide +kernel⟩
abbrev rm_Model_puts : Room := { frames := 0, cells := 0, slots := 0, locals := 0 }
theorem f_Model_189 : Cond.fieldLink R_Model 189 (T_Model 48).1 (T_Model 48).2.1 (T_Model 48).2.2.1 ∈ dk_tb := dk_in (List.mem_of_getElem? (i := 1012) (by decide +kernel)) rfl
theorem f_Model_40 : Cond.fieldLink R_Model 40 (T_Model 14).1 (T_Model 14).2.1 (T_Model 14).2.2.1 ∈ dk_tb := dk_in (List.mem_of_getElem? (i := 978) (by decide +kernel)) rfl
theorem f_Model_46 : Cond.fieldLink R_Model 46 (T_Model 16).1 (T_Model 16).2.1 (T_Model 16).2.2.1 ∈ dk_tb := dk_in (List.mem_of_getElem? (i := 980) (by decide +kernel)) rfl
def B_Model_puts_0 (n : Nat)  (x1 : Int32) (S : dk_S) : Option dk_S :=
  dk_w S 14 1200 (((200 : Int32) * (S 16 0)) + (S 48 0)) x1 fun S1 => dk_p S1 48 ((S1 48 0) + (1 : Int32)) fun S2 => some S2
set_option maxRecDepth 20000 in
theorem kb_Model_puts_0 {p : Program} {l : Launch} {e : Env} {s : State} {m : MethodId} {args : Array Value} {below : List Frame} {meth : Method} {c : Code} {g : dk_G} {A : Nat → Prop} {Q : State → Prop} {am : Nat → Nat} {n : Nat} {res : dk_S} (X : dk_X p s m args meth c b_Model_puts 2 R_Model (none) g A) (hR : dk_Rv p l e rm_Model_puts s m args below meth c g A Q 2 b_Model_puts (none) (wM g am) res)  {x1 : Int32} {S : dk_S}  (hF : B_Model_puts_0 n  x1 S = some res) : dk_J p l e rm_Model_puts s m args below meth c g A Q 2 0 0 0 [(0, .ref (am 0)), (1, .int x1)] [] (wM g am S) := by
  unfold B_Model_puts_0 at hF
  refine dk_aload_n (k := 0) (i := 0) X 0 rfl rfl d_Model_puts_0 ?_
  refine dk_get X q_Model 0 14 (by decide) (oM_Model g am S) rfl f_Model_40 d_Model_puts_1 ?_
  refine dk_sipush (v := 200) X (by decide) d_Model_puts_4 ?_
  refine dk_aload_n (k := 0) (i := 0) X 0 rfl rfl d_Model_puts_7 ?_
  refine dk_get X q_Model 0 16 (by decide) (oM_Model g am S) rfl f_Model_46 d_Model_puts_8 ?_
  refine dk_imul X d_Model_puts_11 ?_
  refine dk_aload_n (k := 0) (i := 0) X 0 rfl rfl d_Model_puts_12 ?_
  refine dk_get X q_Model 0 48 (by decide) (oM_Model g am S) rfl f_Model_189 d_Model_puts_13 ?_
  refine dk_iadd X d_Model_puts_16 ?_
  refine dk_iload_n (k := 1) (i := 1) X 1 rfl rfl d_Model_puts_17 ?_
  refine dk_iast X 11 (aM_11 g am S) (sM_11 g am S _ _) d_Model_puts_18 hF (fun S1 hF => ?_)
  refine dk_aload_n (k := 0) (i := 0) X 0 rfl rfl d_Model_puts_19 ?_
  refine dk_dup X rfl d_Model_puts_20 ?_
  refine dk_get X q_Model 0 48 (by decide) (oM_Model g am S1) rfl f_Model_189 d_Model_puts_21 ?_
  refine dk_iconst (v := 1) X (by decide) d_Model_puts_24 ?_
  refine dk_iadd X d_Model_puts_25 ?_
  refine dk_puti X q_Model 0 48 (by decide) (oM_Model g am S1) f_Model_189 rfl rfl (Nat.le_of_ble_eq_true rfl) (sM_Model_out g am S1 _) d_Model_puts_26 hF (fun S2 hF => ?_)
  exact dk_retv hR hF d_Model_puts_29
def F_Model_puts (n : Nat) (x1 : Int32) (S : dk_S) : Option dk_S := B_Model_puts_0 n x1 S
theorem c_Model_puts (l : Launch) (g : dk_G) (am : Nat → Nat) (n : Nat) (x1 : Int32)  (S : dk_S) : dk_Mv l g y_Model_puts b_Model_puts 2 rm_Model_puts (none) [.ref (am 0), .int x1] (wM g am) S (F_Model_puts n x1 S) := dk_enterv (by decide) rfl (Nat.le_of_ble_eq_true rfl) (fun p e s m args below meth c A Q res hF X hR => (kb_Model_puts_0 (n := n) X hR  hF))
abbrev b_Model_unwinds : ByteArray := prog_11_method_21_code
def y_Model_unwinds : MethodName := ⟨R_Model, "unwinds", "(I)V"⟩
theorem d_Model_unwinds_0 : decode b_Model_unwinds 0 = .ok (.aload_n 0, 1) := by decide +kernel
theorem d_Model_unwinds_1 : decode b_Model_unwinds 1 = .ok (.getfield 192, 3) := by decide +kernel
theorem d_Model_unwinds_4 : decode b_Model_unwinds 4 = .ok (.ifCond .le 75, 3) := by decide +kernel
theorem d_Model_unwinds_7 : decode b_Model_unwinds 7 = .ok (.aload_n 0, 1) := by decide +kernel
theorem d_Model_unwinds_8 : decode b_Model_unwinds 8 = .ok (.getfield 125, 3) := by decide +kernel
theorem d_Model_unwinds_11 : decode b_Model_unwinds 11 = .ok (.aload_n 0, 1) := by decide +kernel
theorem d_Model_unwinds_12 : decode b_Model_unwinds 12 = .ok (.getfield 192, 3) := by decide +kernel
theorem d_Model_unwinds_15 : decode b_Model_unwinds 15 = .ok (.iconst 1, 1) := by decide +kernel
theorem d_Model_unwinds_16 : decode b_Model_unwinds 16 = .ok (.isub, 1) := by decide +kernel
theorem d_Model_unwinds_17 : decode b_Model_unwinds 17 = .ok (.iaload, 1) := by decide +kernel
theorem d_Model_unwinds_18 : decode b_Model_unwinds 18 = .ok (.invokestatic 195, 3) := by decide +kernel
theorem d_Model_unwinds_21 : decode b_Model_unwinds 21 = .ok (.iload_n 1, 1) := by decide +kernel
theorem d_Model_unwinds_22 : decode b_Model_unwinds 22 = .ok (.if_icmp .lt 57, 3) := by decide +kernel
theorem d_Model_unwinds_25 : decode b_Model_unwinds 25 = .ok (.aload_n 0, 1) := by decide +kernel
theorem d_Model_unwinds_26 : decode b_Model_unwinds 26 = .ok (.dup, 1) := by decide +kernel
theorem d_Model_unwinds_27 : decode b_Model_unwinds 27 = .ok (.getfield 192, 3) := by decide +kernel
theorem d_Model_unwinds_30 : decode b_Model_unwinds 30 = .ok (.iconst 1, 1) := by decide +kernel
theorem d_Model_unwinds_31 : decode b_Model_unwinds 31 = .ok (.isub, 1) := by decide +kernel
theorem d_Model_unwinds_32 : decode b_Model_unwinds 32 = .ok (.putfield 192, 3) := by decide +kernel
theorem d_Model_unwinds_35 : decode b_Model_unwinds 35 = .ok (.aload_n 0, 1) := by decide +kernel
theorem d_Model_unwinds_36 : decode b_Model_unwinds 36 = .ok (.getfield 125, 3) := by decide +kernel
theorem d_Model_unwinds_39 : decode b_Model_unwinds 39 = .ok (.aload_n 0, 1) := by decide +kernel
theorem d_Model_unwinds_40 : decode b_Model_unwinds 40 = .ok (.getfield 192, 3) := by decide +kernel
theorem d_Model_unwinds_43 : decode b_Model_unwinds 43 = .ok (.iaload, 1) := by decide +kernel
theorem d_Model_unwinds_44 : decode b_Model_unwinds 44 = .ok (.istore_n 2, 1) := by decide +kernel
theorem d_Model_unwinds_45 : decode b_Model_unwinds 45 = .ok (.aload_n 0, 1) := by decide +kernel
theorem d_Model_unwinds_46 : decode b_Model_unwinds 46 = .ok (.dup, 1) := by decide +kernel
theorem d_Model_unwinds_47 : decode b_Model_unwinds 47 = .ok (.getfield 199, 3) := by decide +kernel
theorem d_Model_unwinds_50 : decode b_Model_unwinds 50 = .ok (.iload_n 2, 1) := by decide +kernel
theorem d_Model_unwinds_51 : decode b_Model_unwinds 51 = .ok (.bipush 13, 2) := by decide +kernel
theorem d_Model_unwinds_53 : decode b_Model_unwinds 53 = .ok (.if_icmp .eq 9, 3) := by decide +kernel
theorem d_Model_unwinds_56 : decode b_Model_unwinds 56 = .ok (.iload_n 2, 1) := by decide +kernel
theorem d_Model_unwinds_57 : decode b_Model_unwinds 57 = .ok (.bipush 19, 2) := by decide +kernel
theorem d_Model_unwinds_59 : decode b_Model_unwinds 59 = .ok (.if_icmp .ne 7, 3) := by decide +kernel
theorem d_Model_unwinds_62 : decode b_Model_unwinds 62 = .ok (.iconst 1, 1) := by decide +kernel
theorem d_Model_unwinds_63 : decode b_Model_unwinds 63 = .ok (.goto 4, 3) := by decide +kernel
theorem d_Model_unwinds_66 : decode b_Model_unwinds 66 = .ok (.iconst 0, 1) := by decide +kernel
theorem d_Model_unwinds_67 : decode b_Model_unwinds 67 = .ok (.isub, 1) := by decide +kernel
theorem d_Model_unwinds_68 : decode b_Model_unwinds 68 = .ok (.putfield 199, 3) := by decide +kernel
theorem d_Model_unwinds_71 : decode b_Model_unwinds 71 = .ok (.aload_n 0, 1) := by decide +kernel
theorem d_Model_unwinds_72 : decode b_Model_unwinds 72 = .ok (.iload_n 2, 1) := by decide +kernel
theorem d_Model_unwinds_73 : decode b_Model_unwinds 73 = .ok (.invokevirtual 202, 3) := by decide +kernel
theorem d_Model_unwinds_76 : decode b_Model_unwinds 76 = .ok (.goto (-76), 3) := by decide +kernel
theorem d_Model_unwinds_79 : decode b_Model_unwinds 79 = .ok (.return_, 1) := by decide +kernel
theorem v_Model_unwinds : dk_Yv y_Model_unwinds b_Model_unwinds 3 (none) 1 := ⟨dk_in (List.mem_of_getElem? (i := 1194) (by decide +kernel)) rfl, dk_in (List.mem_of_getElem? (i := 41) (by decide +kernel)) rfl, dk_in (List.mem_of_getElem? (i := 75) (by decide +kernel)) rfl, dk_in (List.mem_of_getElem? (i := 1195) (by decide +kernel)) rfl, by decide +kernel, by decide +kernel, by decide +kernel⟩
abbrev rm_Model_unwinds : Room := { frames := 1, cells := 0, slots := 0, locals := 21 }
theorem f_Model_199 : Cond.fieldLink R_Model 199 (T_Model 47).1 (T_Model 47).2.1 (T_Model 47).2.2.1 ∈ dk_tb := dk_in (List.mem_of_getElem? (i := 1011) (by decide +kernel)) rfl
theorem m_Model_195 : Cond.methodLink R_Model 195 y_Model_rank ∈ dk_tb := dk_in (List.mem_of_getElem? (i := 1196) (by decide +kernel)) rfl
theorem m_Model_202 : Cond.methodLink R_Model 202 y_Model_puts ∈ dk_tb := dk_in (List.mem_of_getElem? (i := 1188) (by decide +kernel)) rfl
def B_Model_unwinds_67 (n : Nat) (k0 : Int32 → dk_S → Option dk_S) (x1 : Int32) (x2 : Int32) (u1 : Int32) (u2 : Int32) (S : dk_S) : Option dk_S :=
  dk_p S 47 (u1 - u2) fun S1 => dk_cv (F_Model_puts n x2 S1) fun S2 => k0 x1 S2
set_option maxRecDepth 20000 in
theorem kb_Model_unwinds_67 {p : Program} {l : Launch} {e : Env} {s : State} {m : MethodId} {args : Array Value} {below : List Frame} {meth : Method} {c : Code} {g : dk_G} {A : Nat → Prop} {Q : State → Prop} {am : Nat → Nat} {n : Nat} {res : dk_S} (X : dk_X p s m args meth c b_Model_unwinds 3 R_Model (none) g A) (hR : dk_Rv p l e rm_Model_unwinds s m args below meth c g A Q 3 b_Model_unwinds (none) (wM g am) res) {k0 : Int32 → dk_S → Option dk_S} (hk0 : ∀ (x1 : Int32)  (S : dk_S), k0 x1 S = some res → dk_J p l e rm_Model_unwinds s m args below meth c g A Q 3 0 0 0 [(0, .ref (am 0)), (1, .int x1)] [] (wM g am S)) {x1 : Int32} {x2 : Int32} {u1 : Int32} {u2 : Int32} {S : dk_S}  (hF : B_Model_unwinds_67 n k0 x1 x2 u1 u2 S = some res) : dk_J p l e rm_Model_unwinds s m args below meth c g A Q 3 0 0 67 [(0, .ref (am 0)), (1, .int x1), (2, .int x2)] [.int u2, .int u1, .ref (am 0)] (wM g am S) := by
  unfold B_Model_unwinds_67 at hF
  refine dk_isub X d_Model_unwinds_67 ?_
  refine dk_puti X q_Model 0 47 (by decide) (oM_Model g am S) f_Model_199 rfl rfl (Nat.le_of_ble_eq_true rfl) (sM_Model_opens g am S _) d_Model_unwinds_68 hF (fun S1 hF => ?_)
  refine dk_aload_n (k := 0) (i := 0) X 0 rfl rfl d_Model_unwinds_71 ?_
  refine dk_iload_n (k := 2) (i := 2) X 2 rfl rfl d_Model_unwinds_72 ?_
  refine dk_callVv X v_Model_puts [.int x2] (c_Model_puts l g am n x2 S1) 0 (oM_Model g am S1) rfl rfl m_Model_202 rfl rfl ⟨rfl, rfl, Nat.le_of_ble_eq_true rfl, Nat.le_of_ble_eq_true rfl, Nat.le_refl _, Nat.le_refl _⟩ (Nat.le_of_ble_eq_true rfl) d_Model_unwinds_73 hF (fun S2 hF => ?_)
  refine dk_goto (tgt := 0) X (by decide) d_Model_unwinds_76 ?_
  exact dk_sub [0, 1] rfl (hk0 x1 S2 hF)
def B_Model_unwinds_62 (n : Nat) (k0 : Int32 → dk_S → Option dk_S) (x1 : Int32) (x2 : Int32) (u1 : Int32) (S : dk_S) : Option dk_S :=
  B_Model_unwinds_67 n k0 x1 x2 u1 (1 : Int32) S
set_option maxRecDepth 20000 in
theorem kb_Model_unwinds_62 {p : Program} {l : Launch} {e : Env} {s : State} {m : MethodId} {args : Array Value} {below : List Frame} {meth : Method} {c : Code} {g : dk_G} {A : Nat → Prop} {Q : State → Prop} {am : Nat → Nat} {n : Nat} {res : dk_S} (X : dk_X p s m args meth c b_Model_unwinds 3 R_Model (none) g A) (hR : dk_Rv p l e rm_Model_unwinds s m args below meth c g A Q 3 b_Model_unwinds (none) (wM g am) res) {k0 : Int32 → dk_S → Option dk_S} (hk0 : ∀ (x1 : Int32)  (S : dk_S), k0 x1 S = some res → dk_J p l e rm_Model_unwinds s m args below meth c g A Q 3 0 0 0 [(0, .ref (am 0)), (1, .int x1)] [] (wM g am S)) {x1 : Int32} {x2 : Int32} {u1 : Int32} {S : dk_S}  (hF : B_Model_unwinds_62 n k0 x1 x2 u1 S = some res) : dk_J p l e rm_Model_unwinds s m args below meth c g A Q 3 0 0 62 [(0, .ref (am 0)), (1, .int x1), (2, .int x2)] [.int u1, .ref (am 0)] (wM g am S) := by
  unfold B_Model_unwinds_62 at hF
  refine dk_iconst (v := 1) X (by decide) d_Model_unwinds_62 ?_
  refine dk_goto (tgt := 67) X (by decide) d_Model_unwinds_63 ?_
  exact (kb_Model_unwinds_67 (n := n) X hR hk0  hF)
def B_Model_unwinds_0b (n : Nat) (k0 : Int32 → dk_S → Option dk_S) (x1 : Int32) (S : dk_S) : Option dk_S :=
  if (S 46 0) ≤ 0 then (some S) else (dk_r 200 (S 45) ((S 46 0) - (1 : Int32)) fun v4 => dk_c (F_Model_rank n v4 S) fun r6 S5 => if r6 < x1 then (some S5) else (dk_p S5 46 ((S5 46 0) - (1 : Int32)) fun S7 => dk_r 200 (S7 45) (S7 46 0) fun v8 => if v8 = (13 : Int32) then (B_Model_unwinds_62 n k0 x1 v8 (S7 47 0) S7) else (if ¬ v8 = (19 : Int32) then (B_Model_unwinds_67 n k0 x1 v8 (S7 47 0) (0 : Int32) S7) else (B_Model_unwinds_62 n k0 x1 v8 (S7 47 0) S7))))
set_option maxRecDepth 20000 in
theorem kb_Model_unwinds_0b {p : Program} {l : Launch} {e : Env} {s : State} {m : MethodId} {args : Array Value} {below : List Frame} {meth : Method} {c : Code} {g : dk_G} {A : Nat → Prop} {Q : State → Prop} {am : Nat → Nat} {n : Nat} {res : dk_S} (X : dk_X p s m args meth c b_Model_unwinds 3 R_Model (none) g A) (hR : dk_Rv p l e rm_Model_unwinds s m args below meth c g A Q 3 b_Model_unwinds (none) (wM g am) res) {k0 : Int32 → dk_S → Option dk_S} (hk0 : ∀ (x1 : Int32)  (S : dk_S), k0 x1 S = some res → dk_J p l e rm_Model_unwinds s m args below meth c g A Q 3 0 0 0 [(0, .ref (am 0)), (1, .int x1)] [] (wM g am S)) {x1 : Int32} {S : dk_S}  (hF : B_Model_unwinds_0b n k0 x1 S = some res) : dk_J p l e rm_Model_unwinds s m args below meth c g A Q 3 0 0 0 [(0, .ref (am 0)), (1, .int x1)] [] (wM g am S) := by
  unfold B_Model_unwinds_0b at hF
  refine dk_aload_n (k := 0) (i := 0) X 0 rfl rfl d_Model_unwinds_0 ?_
  refine dk_get X q_Model 0 46 (by decide) (oM_Model g am S) rfl f_Model_192 d_Model_unwinds_1 ?_
  refine dk_if_le (tgt := 79) X (by decide) d_Model_unwinds_4 hF (fun hF => ?_) (fun hF => ?_)
  · exact dk_retv hR hF d_Model_unwinds_79
  · refine dk_aload_n (k := 0) (i := 0) X 0 rfl rfl d_Model_unwinds_7 ?_
    refine dk_get X q_Model 0 45 (by decide) (oM_Model g am S) rfl f_Model_125 d_Model_unwinds_8 ?_
    refine dk_aload_n (k := 0) (i := 0) X 0 rfl rfl d_Model_unwinds_11 ?_
    refine dk_get X q_Model 0 46 (by decide) (oM_Model g am S) rfl f_Model_192 d_Model_unwinds_12 ?_
    refine dk_iconst (v := 1) X (by decide) d_Model_unwinds_15 ?_
    refine dk_isub X d_Model_unwinds_16 ?_
    refine dk_iald X 30 (aM_30 g am S) d_Model_unwinds_17 hF (fun v4 hF => ?_)
    refine dk_callSi X v_Model_rank [.int v4] (c_Model_rank l g am n v4 S) m_Model_195 rfl rfl ⟨rfl, rfl, Nat.le_of_ble_eq_true rfl, Nat.le_of_ble_eq_true rfl, Nat.le_refl _, Nat.le_refl _⟩ (Nat.le_of_ble_eq_true rfl) d_Model_unwinds_18 hF (fun r6 S5 hF => ?_)
    refine dk_iload_n (k := 1) (i := 1) X 1 rfl rfl d_Model_unwinds_21 ?_
    refine dk_icmp_lt (tgt := 79) X (by decide) d_Model_unwinds_22 hF (fun hF => ?_) (fun hF => ?_)
    · exact dk_retv hR hF d_Model_unwinds_79
    · refine dk_aload_n (k := 0) (i := 0) X 0 rfl rfl d_Model_unwinds_25 ?_
      refine dk_dup X rfl d_Model_unwinds_26 ?_
      refine dk_get X q_Model 0 46 (by decide) (oM_Model g am S5) rfl f_Model_192 d_Model_unwinds_27 ?_
      refine dk_iconst (v := 1) X (by decide) d_Model_unwinds_30 ?_
      refine dk_isub X d_Model_unwinds_31 ?_
      refine dk_puti X q_Model 0 46 (by decide) (oM_Model g am S5) f_Model_192 rfl rfl (Nat.le_of_ble_eq_true rfl) (sM_Model_heldMany g am S5 _) d_Model_unwinds_32 hF (fun S7 hF => ?_)
      refine dk_aload_n (k := 0) (i := 0) X 0 rfl rfl d_Model_unwinds_35 ?_
      refine dk_get X q_Model 0 45 (by decide) (oM_Model g am S7) rfl f_Model_125 d_Model_unwinds_36 ?_
      refine dk_aload_n (k := 0) (i := 0) X 0 rfl rfl d_Model_unwinds_39 ?_
      refine dk_get X q_Model 0 46 (by decide) (oM_Model g am S7) rfl f_Model_192 d_Model_unwinds_40 ?_
      refine dk_iald X 30 (aM_30 g am S7) d_Model_unwinds_43 hF (fun v8 hF => ?_)
      refine dk_istore_n (k := 2) (i := 2) (lv' := [(2, .int v8), (0, .ref (am 0)), (1, .int x1)]) X rfl (by decide) rfl d_Model_unwinds_44 ?_
      refine dk_aload_n (k := 0) (i := 0) X 1 rfl rfl d_Model_unwinds_45 ?_
      refine dk_dup X rfl d_Model_unwinds_46 ?_
      refine dk_get X q_Model 0 47 (by decide) (oM_Model g am S7) rfl f_Model_199 d_Model_unwinds_47 ?_
      refine dk_iload_n (k := 2) (i := 2) X 0 rfl rfl d_Model_unwinds_50 ?_
      refine dk_bipush (v := 13) X (by decide) d_Model_unwinds_51 ?_
      refine dk_icmp_eq (tgt := 62) X (by decide) d_Model_unwinds_53 hF (fun hF => ?_) (fun hF => ?_)
      · exact dk_sub [1, 2, 0] rfl (kb_Model_unwinds_62 (n := n) X hR hk0  hF)
      · refine dk_iload_n (k := 2) (i := 2) X 0 rfl rfl d_Model_unwinds_56 ?_
        refine dk_bipush (v := 19) X (by decide) d_Model_unwinds_57 ?_
        refine dk_icmp_ne (tgt := 66) X (by decide) d_Model_unwinds_59 hF (fun hF => ?_) (fun hF => ?_)
        · refine dk_iconst (v := 0) X (by decide) d_Model_unwinds_66 ?_
          exact dk_sub [1, 2, 0] rfl (kb_Model_unwinds_67 (n := n) X hR hk0  hF)
        · exact dk_sub [1, 2, 0] rfl (kb_Model_unwinds_62 (n := n) X hR hk0  hF)
def B_Model_unwinds_0 (n : Nat)  : Nat → Int32 → dk_S → Option dk_S
  | 0 => fun _ _ => none
  | q + 1 => fun x1 S => B_Model_unwinds_0b n (fun x1 S => B_Model_unwinds_0 n  q x1 S) x1 S
theorem kb_Model_unwinds_0 {p : Program} {l : Launch} {e : Env} {s : State} {m : MethodId} {args : Array Value} {below : List Frame} {meth : Method} {c : Code} {g : dk_G} {A : Nat → Prop} {Q : State → Prop} {am : Nat → Nat} {n : Nat} {res : dk_S} (X : dk_X p s m args meth c b_Model_unwinds 3 R_Model (none) g A) (hR : dk_Rv p l e rm_Model_unwinds s m args below meth c g A Q 3 b_Model_unwinds (none) (wM g am) res)  : ∀ (q : Nat) (x1 : Int32)  (S : dk_S), B_Model_unwinds_0 n  q x1 S = some res → dk_J p l e rm_Model_unwinds s m args below meth c g A Q 3 0 0 0 [(0, .ref (am 0)), (1, .int x1)] [] (wM g am S) := by
  intro q
  induction q with
  | zero => intro x1  S hF; cases hF
  | succ q ih => intro x1  S hF; exact kb_Model_unwinds_0b (n := n) X hR ih  hF
def F_Model_unwinds (n : Nat) (x1 : Int32) (S : dk_S) : Option dk_S := B_Model_unwinds_0 n n x1 S
theorem c_Model_unwinds (l : Launch) (g : dk_G) (am : Nat → Nat) (n : Nat) (x1 : Int32)  (S : dk_S) : dk_Mv l g y_Model_unwinds b_Model_unwinds 3 rm_Model_unwinds (none) [.ref (am 0), .int x1] (wM g am) S (F_Model_unwinds n x1 S) := dk_enterv (by decide) rfl (Nat.le_of_ble_eq_true rfl) (fun p e s m args below meth c A Q res hF X hR => (kb_Model_unwinds_0 (n := n) X hR n x1  S hF))
abbrev b_Model_between : ByteArray := prog_11_method_24_code
def y_Model_between : MethodName := ⟨R_Model, "between", "(I)Z"⟩
theorem d_Model_between_0 : decode b_Model_between 0 = .ok (.aload_n 0, 1) := by decide +kernel
theorem d_Model_between_1 : decode b_Model_between 1 = .ok (.iload_n 1, 1) := by decide +kernel
theorem d_Model_between_2 : decode b_Model_between 2 = .ok (.invokestatic 195, 3) := by decide +kernel
theorem d_Model_between_5 : decode b_Model_between 5 = .ok (.iconst 4, 1) := by decide +kernel
theorem d_Model_between_6 : decode b_Model_between 6 = .ok (.if_icmp .ne 7, 3) := by decide +kernel
theorem d_Model_between_9 : decode b_Model_between 9 = .ok (.iconst 5, 1) := by decide +kernel
theorem d_Model_between_10 : decode b_Model_between 10 = .ok (.goto 7, 3) := by decide +kernel
theorem d_Model_between_13 : decode b_Model_between 13 = .ok (.iload_n 1, 1) := by decide +kernel
theorem d_Model_between_14 : decode b_Model_between 14 = .ok (.invokestatic 195, 3) := by decide +kernel
theorem d_Model_between_17 : decode b_Model_between 17 = .ok (.invokevirtual 209, 3) := by decide +kernel
theorem d_Model_between_20 : decode b_Model_between 20 = .ok (.iload_n 1, 1) := by decide +kernel
theorem d_Model_between_21 : decode b_Model_between 21 = .ok (.invokestatic 195, 3) := by decide +kernel
theorem d_Model_between_24 : decode b_Model_between 24 = .ok (.iconst 4, 1) := by decide +kernel
theorem d_Model_between_25 : decode b_Model_between 25 = .ok (.if_icmp .ne 30, 3) := by decide +kernel
theorem d_Model_between_28 : decode b_Model_between 28 = .ok (.aload_n 0, 1) := by decide +kernel
theorem d_Model_between_29 : decode b_Model_between 29 = .ok (.getfield 192, 3) := by decide +kernel
theorem d_Model_between_32 : decode b_Model_between 32 = .ok (.ifCond .le 23, 3) := by decide +kernel
theorem d_Model_between_35 : decode b_Model_between 35 = .ok (.aload_n 0, 1) := by decide +kernel
theorem d_Model_between_36 : decode b_Model_between 36 = .ok (.getfield 125, 3) := by decide +kernel
theorem d_Model_between_39 : decode b_Model_between 39 = .ok (.aload_n 0, 1) := by decide +kernel
theorem d_Model_between_40 : decode b_Model_between 40 = .ok (.getfield 192, 3) := by decide +kernel
theorem d_Model_between_43 : decode b_Model_between 43 = .ok (.iconst 1, 1) := by decide +kernel
theorem d_Model_between_44 : decode b_Model_between 44 = .ok (.isub, 1) := by decide +kernel
theorem d_Model_between_45 : decode b_Model_between 45 = .ok (.iaload, 1) := by decide +kernel
theorem d_Model_between_46 : decode b_Model_between 46 = .ok (.invokestatic 195, 3) := by decide +kernel
theorem d_Model_between_49 : decode b_Model_between 49 = .ok (.iconst 4, 1) := by decide +kernel
theorem d_Model_between_50 : decode b_Model_between 50 = .ok (.if_icmp .ne 5, 3) := by decide +kernel
theorem d_Model_between_53 : decode b_Model_between 53 = .ok (.iconst 0, 1) := by decide +kernel
theorem d_Model_between_54 : decode b_Model_between 54 = .ok (.ireturn, 1) := by decide +kernel
theorem d_Model_between_55 : decode b_Model_between 55 = .ok (.aload_n 0, 1) := by decide +kernel
theorem d_Model_between_56 : decode b_Model_between 56 = .ok (.iload_n 1, 1) := by decide +kernel
theorem d_Model_between_57 : decode b_Model_between 57 = .ok (.invokevirtual 206, 3) := by decide +kernel
theorem d_Model_between_60 : decode b_Model_between 60 = .ok (.iconst 1, 1) := by decide +kernel
theorem d_Model_between_61 : decode b_Model_between 61 = .ok (.ireturn, 1) := by decide +kernel
theorem v_Model_between : dk_Yv y_Model_between b_Model_between 2 (some .boolean) 1 := ⟨dk_in (List.mem_of_getElem? (i := 1213) (by decide +kernel)) rfl, dk_in (List.mem_of_getElem? (i := 45) (by decide +kernel)) rfl, dk_in (List.mem_of_getElem? (i := 75) (by decide +kernel)) rfl, dk_in (List.mem_of_getElem? (i := 1214) (by decide +kernel)) rfl, by decide +kernel, by decide +kernel, by decide +kernel⟩
abbrev rm_Model_between : Room := { frames := 2, cells := 0, slots := 0, locals := 43 }
theorem m_Model_206 : Cond.methodLink R_Model 206 y_Model_holds ∈ dk_tb := dk_in (List.mem_of_getElem? (i := 1203) (by decide +kernel)) rfl
theorem m_Model_209 : Cond.methodLink R_Model 209 y_Model_unwinds ∈ dk_tb := dk_in (List.mem_of_getElem? (i := 1192) (by decide +kernel)) rfl
def B_Model_between_55 (n : Nat)  (x1 : Int32) (S : dk_S) : Option (Int32 × dk_S) :=
  dk_cv (F_Model_holds n x1 S) fun S1 => dk_b (1 : Int32) (some ((1 : Int32), S1))
set_option maxRecDepth 20000 in
theorem kb_Model_between_55 {p : Program} {l : Launch} {e : Env} {s : State} {m : MethodId} {args : Array Value} {below : List Frame} {meth : Method} {c : Code} {g : dk_G} {A : Nat → Prop} {Q : State → Prop} {am : Nat → Nat} {n : Nat} {res : (Int32 × dk_S)} (X : dk_X p s m args meth c b_Model_between 2 R_Model (some .boolean) g A) (hR : dk_Ri p l e rm_Model_between s m args below meth c g A Q 2 b_Model_between (some .boolean) (wM g am) res)  {x1 : Int32} {S : dk_S}  (hF : B_Model_between_55 n  x1 S = some res) : dk_J p l e rm_Model_between s m args below meth c g A Q 2 0 0 55 [(0, .ref (am 0)), (1, .int x1)] [] (wM g am S) := by
  unfold B_Model_between_55 at hF
  refine dk_aload_n (k := 0) (i := 0) X 0 rfl rfl d_Model_between_55 ?_
  refine dk_iload_n (k := 1) (i := 1) X 1 rfl rfl d_Model_between_56 ?_
  refine dk_callVv X v_Model_holds [.int x1] (c_Model_holds l g am n x1 S) 0 (oM_Model g am S) rfl rfl m_Model_206 rfl rfl ⟨rfl, rfl, Nat.le_of_ble_eq_true rfl, Nat.le_of_ble_eq_true rfl, Nat.le_refl _, Nat.le_refl _⟩ (Nat.le_of_ble_eq_true rfl) d_Model_between_57 hF (fun S1 hF => ?_)
  refine dk_iconst (v := 1) X (by decide) d_Model_between_60 ?_
  exact dk_retz hR hF d_Model_between_61
def B_Model_between_17 (n : Nat)  (x1 : Int32) (u1 : Int32) (S : dk_S) : Option (Int32 × dk_S) :=
  dk_cv (F_Model_unwinds n u1 S) fun S3 => dk_c (F_Model_rank n x1 S3) fun r6 S5 => if ¬ r6 = (4 : Int32) then (B_Model_between_55 n  x1 S5) else (if (S5 46 0) ≤ 0 then (B_Model_between_55 n  x1 S5) else (dk_r 200 (S5 45) ((S5 46 0) - (1 : Int32)) fun v7 => dk_c (F_Model_rank n v7 S5) fun r9 S8 => if ¬ r9 = (4 : Int32) then (B_Model_between_55 n  x1 S8) else (dk_b (0 : Int32) (some ((0 : Int32), S8)))))
set_option maxRecDepth 20000 in
theorem kb_Model_between_17 {p : Program} {l : Launch} {e : Env} {s : State} {m : MethodId} {args : Array Value} {below : List Frame} {meth : Method} {c : Code} {g : dk_G} {A : Nat → Prop} {Q : State → Prop} {am : Nat → Nat} {n : Nat} {res : (Int32 × dk_S)} (X : dk_X p s m args meth c b_Model_between 2 R_Model (some .boolean) g A) (hR : dk_Ri p l e rm_Model_between s m args below meth c g A Q 2 b_Model_between (some .boolean) (wM g am) res)  {x1 : Int32} {u1 : Int32} {S : dk_S}  (hF : B_Model_between_17 n  x1 u1 S = some res) : dk_J p l e rm_Model_between s m args below meth c g A Q 2 0 0 17 [(0, .ref (am 0)), (1, .int x1)] [.int u1, .ref (am 0)] (wM g am S) := by
  unfold B_Model_between_17 at hF
  refine dk_callVv X v_Model_unwinds [.int u1] (c_Model_unwinds l g am n u1 S) 0 (oM_Model g am S) rfl rfl m_Model_209 rfl rfl ⟨rfl, rfl, Nat.le_of_ble_eq_true rfl, Nat.le_of_ble_eq_true rfl, Nat.le_refl _, Nat.le_refl _⟩ (Nat.le_of_ble_eq_true rfl) d_Model_between_17 hF (fun S3 hF => ?_)
  refine dk_iload_n (k := 1) (i := 1) X 1 rfl rfl d_Model_between_20 ?_
  refine dk_callSi X v_Model_rank [.int x1] (c_Model_rank l g am n x1 S3) m_Model_195 rfl rfl ⟨rfl, rfl, Nat.le_of_ble_eq_true rfl, Nat.le_of_ble_eq_true rfl, Nat.le_refl _, Nat.le_refl _⟩ (Nat.le_of_ble_eq_true rfl) d_Model_between_21 hF (fun r6 S5 hF => ?_)
  refine dk_iconst (v := 4) X (by decide) d_Model_between_24 ?_
  refine dk_icmp_ne (tgt := 55) X (by decide) d_Model_between_25 hF (fun hF => ?_) (fun hF => ?_)
  · exact (kb_Model_between_55 (n := n) X hR   hF)
  · refine dk_aload_n (k := 0) (i := 0) X 0 rfl rfl d_Model_between_28 ?_
    refine dk_get X q_Model 0 46 (by decide) (oM_Model g am S5) rfl f_Model_192 d_Model_between_29 ?_
    refine dk_if_le (tgt := 55) X (by decide) d_Model_between_32 hF (fun hF => ?_) (fun hF => ?_)
    · exact (kb_Model_between_55 (n := n) X hR   hF)
    · refine dk_aload_n (k := 0) (i := 0) X 0 rfl rfl d_Model_between_35 ?_
      refine dk_get X q_Model 0 45 (by decide) (oM_Model g am S5) rfl f_Model_125 d_Model_between_36 ?_
      refine dk_aload_n (k := 0) (i := 0) X 0 rfl rfl d_Model_between_39 ?_
      refine dk_get X q_Model 0 46 (by decide) (oM_Model g am S5) rfl f_Model_192 d_Model_between_40 ?_
      refine dk_iconst (v := 1) X (by decide) d_Model_between_43 ?_
      refine dk_isub X d_Model_between_44 ?_
      refine dk_iald X 30 (aM_30 g am S5) d_Model_between_45 hF (fun v7 hF => ?_)
      refine dk_callSi X v_Model_rank [.int v7] (c_Model_rank l g am n v7 S5) m_Model_195 rfl rfl ⟨rfl, rfl, Nat.le_of_ble_eq_true rfl, Nat.le_of_ble_eq_true rfl, Nat.le_refl _, Nat.le_refl _⟩ (Nat.le_of_ble_eq_true rfl) d_Model_between_46 hF (fun r9 S8 hF => ?_)
      refine dk_iconst (v := 4) X (by decide) d_Model_between_49 ?_
      refine dk_icmp_ne (tgt := 55) X (by decide) d_Model_between_50 hF (fun hF => ?_) (fun hF => ?_)
      · exact (kb_Model_between_55 (n := n) X hR   hF)
      · refine dk_iconst (v := 0) X (by decide) d_Model_between_53 ?_
        exact dk_retz hR hF d_Model_between_54
def B_Model_between_0 (n : Nat)  (x1 : Int32) (S : dk_S) : Option (Int32 × dk_S) :=
  dk_c (F_Model_rank n x1 S) fun r11 S10 => if ¬ r11 = (4 : Int32) then (dk_c (F_Model_rank n x1 S10) fun r13 S12 => B_Model_between_17 n  x1 r13 S12) else (B_Model_between_17 n  x1 (5 : Int32) S10)
set_option maxRecDepth 20000 in
theorem kb_Model_between_0 {p : Program} {l : Launch} {e : Env} {s : State} {m : MethodId} {args : Array Value} {below : List Frame} {meth : Method} {c : Code} {g : dk_G} {A : Nat → Prop} {Q : State → Prop} {am : Nat → Nat} {n : Nat} {res : (Int32 × dk_S)} (X : dk_X p s m args meth c b_Model_between 2 R_Model (some .boolean) g A) (hR : dk_Ri p l e rm_Model_between s m args below meth c g A Q 2 b_Model_between (some .boolean) (wM g am) res)  {x1 : Int32} {S : dk_S}  (hF : B_Model_between_0 n  x1 S = some res) : dk_J p l e rm_Model_between s m args below meth c g A Q 2 0 0 0 [(0, .ref (am 0)), (1, .int x1)] [] (wM g am S) := by
  unfold B_Model_between_0 at hF
  refine dk_aload_n (k := 0) (i := 0) X 0 rfl rfl d_Model_between_0 ?_
  refine dk_iload_n (k := 1) (i := 1) X 1 rfl rfl d_Model_between_1 ?_
  refine dk_callSi X v_Model_rank [.int x1] (c_Model_rank l g am n x1 S) m_Model_195 rfl rfl ⟨rfl, rfl, Nat.le_of_ble_eq_true rfl, Nat.le_of_ble_eq_true rfl, Nat.le_refl _, Nat.le_refl _⟩ (Nat.le_of_ble_eq_true rfl) d_Model_between_2 hF (fun r11 S10 hF => ?_)
  refine dk_iconst (v := 4) X (by decide) d_Model_between_5 ?_
  refine dk_icmp_ne (tgt := 13) X (by decide) d_Model_between_6 hF (fun hF => ?_) (fun hF => ?_)
  · refine dk_iload_n (k := 1) (i := 1) X 1 rfl rfl d_Model_between_13 ?_
    refine dk_callSi X v_Model_rank [.int x1] (c_Model_rank l g am n x1 S10) m_Model_195 rfl rfl ⟨rfl, rfl, Nat.le_of_ble_eq_true rfl, Nat.le_of_ble_eq_true rfl, Nat.le_refl _, Nat.le_refl _⟩ (Nat.le_of_ble_eq_true rfl) d_Model_between_14 hF (fun r13 S12 hF => ?_)
    exact (kb_Model_between_17 (n := n) X hR   hF)
  · refine dk_iconst (v := 5) X (by decide) d_Model_between_9 ?_
    refine dk_goto (tgt := 17) X (by decide) d_Model_between_10 ?_
    exact (kb_Model_between_17 (n := n) X hR   hF)
def F_Model_between (n : Nat) (x1 : Int32) (S : dk_S) : Option (Int32 × dk_S) := B_Model_between_0 n x1 S
theorem c_Model_between (l : Launch) (g : dk_G) (am : Nat → Nat) (n : Nat) (x1 : Int32)  (S : dk_S) : dk_Mi l g y_Model_between b_Model_between 2 rm_Model_between (some .boolean) [.ref (am 0), .int x1] (wM g am) S (F_Model_between n x1 S) := dk_enteri (by decide) (Nat.le_of_ble_eq_true rfl) (fun p e s m args below meth c A Q res hF X hR => (kb_Model_between_0 (n := n) X hR  hF))
abbrev b_Model_letters : ByteArray := prog_11_method_17_code
def y_Model_letters : MethodName := ⟨R_Model, "letters", "()J"⟩
theorem d_Model_letters_0 : decode b_Model_letters 0 = .ok (.lconst 0, 1) := by decide +kernel
theorem d_Model_letters_1 : decode b_Model_letters 1 = .ok (.lstore_n 1, 1) := by decide +kernel
theorem d_Model_letters_2 : decode b_Model_letters 2 = .ok (.iconst 0, 1) := by decide +kernel
theorem d_Model_letters_3 : decode b_Model_letters 3 = .ok (.istore_n 3, 1) := by decide +kernel
theorem d_Model_letters_4 : decode b_Model_letters 4 = .ok (.aload_n 0, 1) := by decide +kernel
theorem d_Model_letters_5 : decode b_Model_letters 5 = .ok (.getfield 173, 3) := by decide +kernel
theorem d_Model_letters_8 : decode b_Model_letters 8 = .ok (.aload_n 0, 1) := by decide +kernel
theorem d_Model_letters_9 : decode b_Model_letters 9 = .ok (.getfield 168, 3) := by decide +kernel
theorem d_Model_letters_12 : decode b_Model_letters 12 = .ok (.if_icmp .ge 64, 3) := by decide +kernel
theorem d_Model_letters_15 : decode b_Model_letters 15 = .ok (.aload_n 0, 1) := by decide +kernel
theorem d_Model_letters_16 : decode b_Model_letters 16 = .ok (.getfield 37, 3) := by decide +kernel
theorem d_Model_letters_19 : decode b_Model_letters 19 = .ok (.aload_n 0, 1) := by decide +kernel
theorem d_Model_letters_20 : decode b_Model_letters 20 = .ok (.getfield 173, 3) := by decide +kernel
theorem d_Model_letters_23 : decode b_Model_letters 23 = .ok (.iaload, 1) := by decide +kernel
theorem d_Model_letters_24 : decode b_Model_letters 24 = .ok (.bipush 97, 2) := by decide +kernel
theorem d_Model_letters_26 : decode b_Model_letters 26 = .ok (.bipush 122, 2) := by decide +kernel
theorem d_Model_letters_28 : decode b_Model_letters 28 = .ok (.invokestatic 144, 3) := by decide +kernel
theorem d_Model_letters_31 : decode b_Model_letters 31 = .ok (.ifCond .eq 45, 3) := by decide +kernel
theorem d_Model_letters_34 : decode b_Model_letters 34 = .ok (.iload_n 3, 1) := by decide +kernel
theorem d_Model_letters_35 : decode b_Model_letters 35 = .ok (.bipush 8, 2) := by decide +kernel
theorem d_Model_letters_37 : decode b_Model_letters 37 = .ok (.if_icmp .ge 21, 3) := by decide +kernel
theorem d_Model_letters_40 : decode b_Model_letters 40 = .ok (.lload_n 1, 1) := by decide +kernel
theorem d_Model_letters_41 : decode b_Model_letters 41 = .ok (.bipush 8, 2) := by decide +kernel
theorem d_Model_letters_43 : decode b_Model_letters 43 = .ok (.lshl, 1) := by decide +kernel
theorem d_Model_letters_44 : decode b_Model_letters 44 = .ok (.aload_n 0, 1) := by decide +kernel
theorem d_Model_letters_45 : decode b_Model_letters 45 = .ok (.getfield 37, 3) := by decide +kernel
theorem d_Model_letters_48 : decode b_Model_letters 48 = .ok (.aload_n 0, 1) := by decide +kernel
theorem d_Model_letters_49 : decode b_Model_letters 49 = .ok (.getfield 173, 3) := by decide +kernel
theorem d_Model_letters_52 : decode b_Model_letters 52 = .ok (.iaload, 1) := by decide +kernel
theorem d_Model_letters_53 : decode b_Model_letters 53 = .ok (.i2l, 1) := by decide +kernel
theorem d_Model_letters_54 : decode b_Model_letters 54 = .ok (.lor, 1) := by decide +kernel
theorem d_Model_letters_55 : decode b_Model_letters 55 = .ok (.goto 4, 3) := by decide +kernel
theorem d_Model_letters_58 : decode b_Model_letters 58 = .ok (.lload_n 1, 1) := by decide +kernel
theorem d_Model_letters_59 : decode b_Model_letters 59 = .ok (.lstore_n 1, 1) := by decide +kernel
theorem d_Model_letters_60 : decode b_Model_letters 60 = .ok (.iinc 3 1, 3) := by decide +kernel
theorem d_Model_letters_63 : decode b_Model_letters 63 = .ok (.aload_n 0, 1) := by decide +kernel
theorem d_Model_letters_64 : decode b_Model_letters 64 = .ok (.dup, 1) := by decide +kernel
theorem d_Model_letters_65 : decode b_Model_letters 65 = .ok (.getfield 173, 3) := by decide +kernel
theorem d_Model_letters_68 : decode b_Model_letters 68 = .ok (.iconst 1, 1) := by decide +kernel
theorem d_Model_letters_69 : decode b_Model_letters 69 = .ok (.iadd, 1) := by decide +kernel
theorem d_Model_letters_70 : decode b_Model_letters 70 = .ok (.putfield 173, 3) := by decide +kernel
theorem d_Model_letters_73 : decode b_Model_letters 73 = .ok (.goto (-69), 3) := by decide +kernel
theorem d_Model_letters_76 : decode b_Model_letters 76 = .ok (.iload_n 3, 1) := by decide +kernel
theorem d_Model_letters_77 : decode b_Model_letters 77 = .ok (.bipush 6, 2) := by decide +kernel
theorem d_Model_letters_79 : decode b_Model_letters 79 = .ok (.if_icmp .le 7, 3) := by decide +kernel
theorem d_Model_letters_82 : decode b_Model_letters 82 = .ok (.lconst 0, 1) := by decide +kernel
theorem d_Model_letters_83 : decode b_Model_letters 83 = .ok (.goto 4, 3) := by decide +kernel
theorem d_Model_letters_86 : decode b_Model_letters 86 = .ok (.lload_n 1, 1) := by decide +kernel
theorem d_Model_letters_87 : decode b_Model_letters 87 = .ok (.lreturn, 1) := by decide +kernel
theorem v_Model_letters : dk_Yv y_Model_letters b_Model_letters 4 (some .long) 0 := ⟨dk_in (List.mem_of_getElem? (i := 1181) (by decide +kernel)) rfl, dk_in (List.mem_of_getElem? (i := 38) (by decide +kernel)) rfl, dk_in (List.mem_of_getElem? (i := 75) (by decide +kernel)) rfl, dk_in (List.mem_of_getElem? (i := 1182) (by decide +kernel)) rfl, by decide +kernel, by decide +kernel, by decide +kernel⟩
abbrev rm_Model_letters : Room := { frames := 1, cells := 0, slots := 0, locals := 22 }
theorem f_Model_173 : Cond.fieldLink R_Model 173 (T_Model 40).1 (T_Model 40).2.1 (T_Model 40).2.2.1 ∈ dk_tb := dk_in (List.mem_of_getElem? (i := 1004) (by decide +kernel)) rfl
def B_Model_letters_59 (n : Nat) (k4 : Int64 → Int32 → dk_S → Option (Int64 × dk_S)) (x3 : Int32) (u0 : Int64) (S : dk_S) : Option (Int64 × dk_S) :=
  dk_p S 40 ((S 40 0) + (1 : Int32)) fun S1 => k4 u0 (x3 + (1 : Int32)) S1
set_option maxRecDepth 20000 in
theorem kb_Model_letters_59 {p : Program} {l : Launch} {e : Env} {s : State} {m : MethodId} {args : Array Value} {below : List Frame} {meth : Method} {c : Code} {g : dk_G} {A : Nat → Prop} {Q : State → Prop} {am : Nat → Nat} {n : Nat} {res : (Int64 × dk_S)} (X : dk_X p s m args meth c b_Model_letters 4 R_Model (some .long) g A) (hR : dk_Rl p l e rm_Model_letters s m args below meth c g A Q 4 b_Model_letters (some .long) (wM g am) res) {k4 : Int64 → Int32 → dk_S → Option (Int64 × dk_S)} (hk4 : ∀ (x1 : Int64) (x3 : Int32)  (S : dk_S), k4 x1 x3 S = some res → dk_J p l e rm_Model_letters s m args below meth c g A Q 4 0 0 4 [(0, .ref (am 0)), (1, .long x1), (3, .int x3)] [] (wM g am S)) {x3 : Int32} {u0 : Int64} {S : dk_S}  (hF : B_Model_letters_59 n k4 x3 u0 S = some res) : dk_J p l e rm_Model_letters s m args below meth c g A Q 4 0 0 59 [(0, .ref (am 0)), (3, .int x3)] [.long u0] (wM g am S) := by
  unfold B_Model_letters_59 at hF
  refine dk_lstore_n (k := 1) (i := 1) (lv' := [(1, .long u0), (0, .ref (am 0)), (3, .int x3)]) X rfl (by decide) rfl d_Model_letters_59 ?_
  refine dk_iinc (i := 3) (v := (x3 + (1 : Int32))) (lv' := [(3, .int (x3 + (1 : Int32))), (1, .long u0), (0, .ref (am 0))]) X 2 rfl (dk_ii _ (by decide)) (by decide) rfl d_Model_letters_60 ?_
  refine dk_aload_n (k := 0) (i := 0) X 2 rfl rfl d_Model_letters_63 ?_
  refine dk_dup X rfl d_Model_letters_64 ?_
  refine dk_get X q_Model 0 40 (by decide) (oM_Model g am S) rfl f_Model_173 d_Model_letters_65 ?_
  refine dk_iconst (v := 1) X (by decide) d_Model_letters_68 ?_
  refine dk_iadd X d_Model_letters_69 ?_
  refine dk_puti X q_Model 0 40 (by decide) (oM_Model g am S) f_Model_173 rfl rfl (Nat.le_of_ble_eq_true rfl) (sM_Model_at g am S _) d_Model_letters_70 hF (fun S1 hF => ?_)
  refine dk_goto (tgt := 4) X (by decide) d_Model_letters_73 ?_
  exact dk_sub [2, 1, 0] rfl (hk4 u0 (x3 + (1 : Int32)) S1 hF)
def B_Model_letters_76 (n : Nat)  (x1 : Int64) (x3 : Int32) (S : dk_S) : Option (Int64 × dk_S) :=
  if x3 ≤ (6 : Int32) then (some (x1, S)) else (some ((0 : Int64), S))
set_option maxRecDepth 20000 in
theorem kb_Model_letters_76 {p : Program} {l : Launch} {e : Env} {s : State} {m : MethodId} {args : Array Value} {below : List Frame} {meth : Method} {c : Code} {g : dk_G} {A : Nat → Prop} {Q : State → Prop} {am : Nat → Nat} {n : Nat} {res : (Int64 × dk_S)} (X : dk_X p s m args meth c b_Model_letters 4 R_Model (some .long) g A) (hR : dk_Rl p l e rm_Model_letters s m args below meth c g A Q 4 b_Model_letters (some .long) (wM g am) res)  {x1 : Int64} {x3 : Int32} {S : dk_S}  (hF : B_Model_letters_76 n  x1 x3 S = some res) : dk_J p l e rm_Model_letters s m args below meth c g A Q 4 0 0 76 [(1, .long x1), (3, .int x3)] [] (wM g am S) := by
  unfold B_Model_letters_76 at hF
  refine dk_iload_n (k := 3) (i := 3) X 1 rfl rfl d_Model_letters_76 ?_
  refine dk_bipush (v := 6) X (by decide) d_Model_letters_77 ?_
  refine dk_icmp_le (tgt := 86) X (by decide) d_Model_letters_79 hF (fun hF => ?_) (fun hF => ?_)
  · refine dk_lload_n (k := 1) (i := 1) X 0 rfl rfl d_Model_letters_86 ?_
    exact dk_retl hR hF d_Model_letters_87
  · refine dk_lconst (v := 0) X (by decide) d_Model_letters_82 ?_
    refine dk_goto (tgt := 87) X (by decide) d_Model_letters_83 ?_
    exact dk_retl hR hF d_Model_letters_87
def B_Model_letters_4b (n : Nat) (k4 : Int64 → Int32 → dk_S → Option (Int64 × dk_S)) (x1 : Int64) (x3 : Int32) (S : dk_S) : Option (Int64 × dk_S) :=
  if (S 13 0) ≤ (S 40 0) then (B_Model_letters_76 n  x1 x3 S) else (dk_r 160 (S 12) (S 40 0) fun v2 => dk_c (F_Model_in n v2 (97 : Int32) (122 : Int32) S) fun r4 S3 => if r4 = 0 then (B_Model_letters_76 n  x1 x3 S3) else (if (8 : Int32) ≤ x3 then (B_Model_letters_59 n k4 x3 x1 S3) else (dk_r 160 (S3 12) (S3 40 0) fun v5 => B_Model_letters_59 n k4 x3 ((x1 <<< ((8 : Int32).toInt64 &&& 63)) ||| v5.toInt64) S3)))
set_option maxRecDepth 20000 in
theorem kb_Model_letters_4b {p : Program} {l : Launch} {e : Env} {s : State} {m : MethodId} {args : Array Value} {below : List Frame} {meth : Method} {c : Code} {g : dk_G} {A : Nat → Prop} {Q : State → Prop} {am : Nat → Nat} {n : Nat} {res : (Int64 × dk_S)} (X : dk_X p s m args meth c b_Model_letters 4 R_Model (some .long) g A) (hR : dk_Rl p l e rm_Model_letters s m args below meth c g A Q 4 b_Model_letters (some .long) (wM g am) res) {k4 : Int64 → Int32 → dk_S → Option (Int64 × dk_S)} (hk4 : ∀ (x1 : Int64) (x3 : Int32)  (S : dk_S), k4 x1 x3 S = some res → dk_J p l e rm_Model_letters s m args below meth c g A Q 4 0 0 4 [(0, .ref (am 0)), (1, .long x1), (3, .int x3)] [] (wM g am S)) {x1 : Int64} {x3 : Int32} {S : dk_S}  (hF : B_Model_letters_4b n k4 x1 x3 S = some res) : dk_J p l e rm_Model_letters s m args below meth c g A Q 4 0 0 4 [(0, .ref (am 0)), (1, .long x1), (3, .int x3)] [] (wM g am S) := by
  unfold B_Model_letters_4b at hF
  refine dk_aload_n (k := 0) (i := 0) X 0 rfl rfl d_Model_letters_4 ?_
  refine dk_get X q_Model 0 40 (by decide) (oM_Model g am S) rfl f_Model_173 d_Model_letters_5 ?_
  refine dk_aload_n (k := 0) (i := 0) X 0 rfl rfl d_Model_letters_8 ?_
  refine dk_get X q_Model 0 13 (by decide) (oM_Model g am S) rfl f_Model_168 d_Model_letters_9 ?_
  refine dk_icmp_ge (tgt := 76) X (by decide) d_Model_letters_12 hF (fun hF => ?_) (fun hF => ?_)
  · exact dk_sub [1, 2] rfl (kb_Model_letters_76 (n := n) X hR   hF)
  · refine dk_aload_n (k := 0) (i := 0) X 0 rfl rfl d_Model_letters_15 ?_
    refine dk_get X q_Model 0 12 (by decide) (oM_Model g am S) rfl f_Model_37 d_Model_letters_16 ?_
    refine dk_aload_n (k := 0) (i := 0) X 0 rfl rfl d_Model_letters_19 ?_
    refine dk_get X q_Model 0 40 (by decide) (oM_Model g am S) rfl f_Model_173 d_Model_letters_20 ?_
    refine dk_iald X 10 (aM_10 g am S) d_Model_letters_23 hF (fun v2 hF => ?_)
    refine dk_bipush (v := 97) X (by decide) d_Model_letters_24 ?_
    refine dk_bipush (v := 122) X (by decide) d_Model_letters_26 ?_
    refine dk_callSi X v_Model_in [.int v2, .int (97 : Int32), .int (122 : Int32)] (c_Model_in l g am n v2 (97 : Int32) (122 : Int32) S) m_Model_144 rfl rfl ⟨rfl, rfl, Nat.le_of_ble_eq_true rfl, Nat.le_of_ble_eq_true rfl, Nat.le_refl _, Nat.le_refl _⟩ (Nat.le_of_ble_eq_true rfl) d_Model_letters_28 hF (fun r4 S3 hF => ?_)
    refine dk_if_eq (tgt := 76) X (by decide) d_Model_letters_31 hF (fun hF => ?_) (fun hF => ?_)
    · exact dk_sub [1, 2] rfl (kb_Model_letters_76 (n := n) X hR   hF)
    · refine dk_iload_n (k := 3) (i := 3) X 2 rfl rfl d_Model_letters_34 ?_
      refine dk_bipush (v := 8) X (by decide) d_Model_letters_35 ?_
      refine dk_icmp_ge (tgt := 58) X (by decide) d_Model_letters_37 hF (fun hF => ?_) (fun hF => ?_)
      · refine dk_lload_n (k := 1) (i := 1) X 1 rfl rfl d_Model_letters_58 ?_
        exact dk_sub [0, 2] rfl (kb_Model_letters_59 (n := n) X hR hk4  hF)
      · refine dk_lload_n (k := 1) (i := 1) X 1 rfl rfl d_Model_letters_40 ?_
        refine dk_bipush (v := 8) X (by decide) d_Model_letters_41 ?_
        refine dk_lshl X d_Model_letters_43 ?_
        refine dk_aload_n (k := 0) (i := 0) X 0 rfl rfl d_Model_letters_44 ?_
        refine dk_get X q_Model 0 12 (by decide) (oM_Model g am S3) rfl f_Model_37 d_Model_letters_45 ?_
        refine dk_aload_n (k := 0) (i := 0) X 0 rfl rfl d_Model_letters_48 ?_
        refine dk_get X q_Model 0 40 (by decide) (oM_Model g am S3) rfl f_Model_173 d_Model_letters_49 ?_
        refine dk_iald X 10 (aM_10 g am S3) d_Model_letters_52 hF (fun v5 hF => ?_)
        refine dk_i2l X d_Model_letters_53 ?_
        refine dk_lor X d_Model_letters_54 ?_
        refine dk_goto (tgt := 59) X (by decide) d_Model_letters_55 ?_
        exact dk_sub [0, 2] rfl (kb_Model_letters_59 (n := n) X hR hk4  hF)
def B_Model_letters_4 (n : Nat)  : Nat → Int64 → Int32 → dk_S → Option (Int64 × dk_S)
  | 0 => fun _ _ _ => none
  | q + 1 => fun x1 x3 S => B_Model_letters_4b n (fun x1 x3 S => B_Model_letters_4 n  q x1 x3 S) x1 x3 S
theorem kb_Model_letters_4 {p : Program} {l : Launch} {e : Env} {s : State} {m : MethodId} {args : Array Value} {below : List Frame} {meth : Method} {c : Code} {g : dk_G} {A : Nat → Prop} {Q : State → Prop} {am : Nat → Nat} {n : Nat} {res : (Int64 × dk_S)} (X : dk_X p s m args meth c b_Model_letters 4 R_Model (some .long) g A) (hR : dk_Rl p l e rm_Model_letters s m args below meth c g A Q 4 b_Model_letters (some .long) (wM g am) res)  : ∀ (q : Nat) (x1 : Int64) (x3 : Int32)  (S : dk_S), B_Model_letters_4 n  q x1 x3 S = some res → dk_J p l e rm_Model_letters s m args below meth c g A Q 4 0 0 4 [(0, .ref (am 0)), (1, .long x1), (3, .int x3)] [] (wM g am S) := by
  intro q
  induction q with
  | zero => intro x1 x3  S hF; cases hF
  | succ q ih => intro x1 x3  S hF; exact kb_Model_letters_4b (n := n) X hR ih  hF
def B_Model_letters_0 (n : Nat)   (S : dk_S) : Option (Int64 × dk_S) :=
  B_Model_letters_4 n  n (0 : Int64) (0 : Int32) S
set_option maxRecDepth 20000 in
theorem kb_Model_letters_0 {p : Program} {l : Launch} {e : Env} {s : State} {m : MethodId} {args : Array Value} {below : List Frame} {meth : Method} {c : Code} {g : dk_G} {A : Nat → Prop} {Q : State → Prop} {am : Nat → Nat} {n : Nat} {res : (Int64 × dk_S)} (X : dk_X p s m args meth c b_Model_letters 4 R_Model (some .long) g A) (hR : dk_Rl p l e rm_Model_letters s m args below meth c g A Q 4 b_Model_letters (some .long) (wM g am) res)   {S : dk_S}  (hF : B_Model_letters_0 n   S = some res) : dk_J p l e rm_Model_letters s m args below meth c g A Q 4 0 0 0 [(0, .ref (am 0))] [] (wM g am S) := by
  unfold B_Model_letters_0 at hF
  refine dk_lconst (v := 0) X (by decide) d_Model_letters_0 ?_
  refine dk_lstore_n (k := 1) (i := 1) (lv' := [(1, .long (0 : Int64)), (0, .ref (am 0))]) X rfl (by decide) rfl d_Model_letters_1 ?_
  refine dk_iconst (v := 0) X (by decide) d_Model_letters_2 ?_
  refine dk_istore_n (k := 3) (i := 3) (lv' := [(3, .int (0 : Int32)), (1, .long (0 : Int64)), (0, .ref (am 0))]) X rfl (by decide) rfl d_Model_letters_3 ?_
  exact dk_sub [2, 1, 0] rfl (kb_Model_letters_4 (n := n) X hR  n (0 : Int64) (0 : Int32) S hF)
def F_Model_letters (n : Nat)  (S : dk_S) : Option (Int64 × dk_S) := B_Model_letters_0 n  S
theorem c_Model_letters (l : Launch) (g : dk_G) (am : Nat → Nat) (n : Nat)   (S : dk_S) : dk_Ml l g y_Model_letters b_Model_letters 4 rm_Model_letters (some .long) [.ref (am 0)] (wM g am) S (F_Model_letters n  S) := dk_enterl (by decide) rfl (Nat.le_of_ble_eq_true rfl) (fun p e s m args below meth c A Q res hF X hR => (kb_Model_letters_0 (n := n) X hR  hF))
