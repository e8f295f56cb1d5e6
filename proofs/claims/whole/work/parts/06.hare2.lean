abbrev b_Hare_claimTaken : ByteArray := prog_1_method_35_code
def y_Hare_claimTaken : MethodName := ⟨R_Hare, "claimTaken", "(II)I"⟩
theorem d_Hare_claimTaken_0 : decode b_Hare_claimTaken 0 = .ok (.aload_n 0, 1) := by decide +kernel
theorem d_Hare_claimTaken_1 : decode b_Hare_claimTaken 1 = .ok (.getfield 49, 3) := by decide +kernel
theorem d_Hare_claimTaken_4 : decode b_Hare_claimTaken 4 = .ok (.aload_n 0, 1) := by decide +kernel
theorem d_Hare_claimTaken_5 : decode b_Hare_claimTaken 5 = .ok (.getfield 19, 3) := by decide +kernel
theorem d_Hare_claimTaken_8 : decode b_Hare_claimTaken 8 = .ok (.getfield 226, 3) := by decide +kernel
theorem d_Hare_claimTaken_11 : decode b_Hare_claimTaken 11 = .ok (.invokevirtual 166, 3) := by decide +kernel
theorem d_Hare_claimTaken_14 : decode b_Hare_claimTaken 14 = .ok (.aload_n 0, 1) := by decide +kernel
theorem d_Hare_claimTaken_15 : decode b_Hare_claimTaken 15 = .ok (.getfield 49, 3) := by decide +kernel
theorem d_Hare_claimTaken_18 : decode b_Hare_claimTaken 18 = .ok (.iload_n 1, 1) := by decide +kernel
theorem d_Hare_claimTaken_19 : decode b_Hare_claimTaken 19 = .ok (.invokevirtual 170, 3) := by decide +kernel
theorem d_Hare_claimTaken_22 : decode b_Hare_claimTaken 22 = .ok (.ifCond .ne 6, 3) := by decide +kernel
theorem d_Hare_claimTaken_25 : decode b_Hare_claimTaken 25 = .ok (.bipush (-11), 2) := by decide +kernel
theorem d_Hare_claimTaken_27 : decode b_Hare_claimTaken 27 = .ok (.ireturn, 1) := by decide +kernel
theorem d_Hare_claimTaken_28 : decode b_Hare_claimTaken 28 = .ok (.aload_n 0, 1) := by decide +kernel
theorem d_Hare_claimTaken_29 : decode b_Hare_claimTaken 29 = .ok (.getfield 49, 3) := by decide +kernel
theorem d_Hare_claimTaken_32 : decode b_Hare_claimTaken 32 = .ok (.getfield 171, 3) := by decide +kernel
theorem d_Hare_claimTaken_35 : decode b_Hare_claimTaken 35 = .ok (.iload_n 1, 1) := by decide +kernel
theorem d_Hare_claimTaken_36 : decode b_Hare_claimTaken 36 = .ok (.iaload, 1) := by decide +kernel
theorem d_Hare_claimTaken_37 : decode b_Hare_claimTaken 37 = .ok (.iload_n 2, 1) := by decide +kernel
theorem d_Hare_claimTaken_38 : decode b_Hare_claimTaken 38 = .ok (.invokestatic 304, 3) := by decide +kernel
theorem d_Hare_claimTaken_41 : decode b_Hare_claimTaken 41 = .ok (.ifCond .eq 15, 3) := by decide +kernel
theorem d_Hare_claimTaken_44 : decode b_Hare_claimTaken 44 = .ok (.aload_n 0, 1) := by decide +kernel
theorem d_Hare_claimTaken_45 : decode b_Hare_claimTaken 45 = .ok (.getfield 49, 3) := by decide +kernel
theorem d_Hare_claimTaken_48 : decode b_Hare_claimTaken 48 = .ok (.getfield 174, 3) := by decide +kernel
theorem d_Hare_claimTaken_51 : decode b_Hare_claimTaken 51 = .ok (.iload_n 1, 1) := by decide +kernel
theorem d_Hare_claimTaken_52 : decode b_Hare_claimTaken 52 = .ok (.iaload, 1) := by decide +kernel
theorem d_Hare_claimTaken_53 : decode b_Hare_claimTaken 53 = .ok (.goto 5, 3) := by decide +kernel
theorem d_Hare_claimTaken_56 : decode b_Hare_claimTaken 56 = .ok (.bipush (-13), 2) := by decide +kernel
theorem d_Hare_claimTaken_58 : decode b_Hare_claimTaken 58 = .ok (.ireturn, 1) := by decide +kernel
theorem v_Hare_claimTaken : dk_Yv y_Hare_claimTaken b_Hare_claimTaken 3 (some .int) 2 := ⟨dk_in (List.mem_of_getElem? (i := 932) (by decide +kernel)) rfl, dk_in (List.mem_of_getElem? (i := 31) (by decide +kernel)) rfl, dk_in (List.mem_of_getElem? (i := 66) (by decide +kernel)) rfl, dk_in (List.mem_of_getElem? (i := 933) (by decide +kernel)) rfl, by decide +kernel, by decide +kernel, by decide +kernel⟩
abbrev rm_Hare_claimTaken : Room := { frames := 5, cells := 0, slots := 0, locals := 118 }
theorem m_Hare_304 : Cond.methodLink R_Hare 304 y_Hare_isOfKind ∈ dk_tb := dk_in (List.mem_of_getElem? (i := 934) (by decide +kernel)) rfl
def B_Hare_claimTaken_0 (n T : Nat)  (x1 : Int32) (x2 : Int32) (S : dk_S) : Option (Int32 × dk_S) :=
  dk_cv (F_Scene_reach n T (S 104 0) S) fun S1 => dk_c (F_Scene_has n T x1 S1) fun r4 S3 => if ¬ r4 = 0 then (dk_r 44 (S3 19) x1 fun v5 => dk_c (F_Hare_isOfKind n T v5 x2 S3) fun r7 S6 => if r7 = 0 then (some ((-13 : Int32), S6)) else (dk_r 44 (S6 20) x1 fun v8 => some (v8, S6))) else (some ((-11 : Int32), S3))
set_option maxRecDepth 20000 in
theorem kb_Hare_claimTaken_0 {p : Program} {l : Launch} {e : Env} {s : State} {m : MethodId} {args : Array Value} {below : List Frame} {meth : Method} {c : Code} {g : dk_G} {A : Nat → Prop} {Q : State → Prop} {ad : Nat → Nat} {T : Nat} {n : Nat} {res : (Int32 × dk_S)} (X : dk_X p s m args meth c b_Hare_claimTaken 3 R_Hare (some .int) g A) (hR : dk_Ri p l e rm_Hare_claimTaken s m args below meth c g A Q 3 b_Hare_claimTaken (some .int) (wC g ad T) res)  {x1 : Int32} {x2 : Int32} {S : dk_S}  (hF : B_Hare_claimTaken_0 n T  x1 x2 S = some res) : dk_J p l e rm_Hare_claimTaken s m args below meth c g A Q 3 0 0 0 [(0, .ref (ad 0)), (1, .int x1), (2, .int x2)] [] (wC g ad T S) := by
  unfold B_Hare_claimTaken_0 at hF
  refine dk_aload_n (k := 0) (i := 0) X 0 rfl rfl d_Hare_claimTaken_0 ?_
  refine dk_get X q_Hare 0 4 (by decide) (oC_Hare g ad T S) rfl f_Hare_49 d_Hare_claimTaken_1 ?_
  refine dk_aload_n (k := 0) (i := 0) X 0 rfl rfl d_Hare_claimTaken_4 ?_
  refine dk_get X q_Hare 0 1 (by decide) (oC_Hare g ad T S) rfl f_Hare_19 d_Hare_claimTaken_5 ?_
  refine dk_get X q_Diary 5 6 (by decide) (oC_Diary g ad T S) rfl f_Hare_226 d_Hare_claimTaken_8 ?_
  refine dk_callVv X v_Scene_reach [.int (S 104 0)] (c_Scene_reach l g ad T n (S 104 0) S) 18 (oC_Scene g ad T S) rfl rfl m_Hare_166 rfl rfl ⟨rfl, rfl, Nat.le_of_ble_eq_true rfl, Nat.le_of_ble_eq_true rfl, Nat.le_refl _, Nat.le_refl _⟩ (Nat.le_of_ble_eq_true rfl) d_Hare_claimTaken_11 hF (fun S1 hF => ?_)
  refine dk_aload_n (k := 0) (i := 0) X 0 rfl rfl d_Hare_claimTaken_14 ?_
  refine dk_get X q_Hare 0 4 (by decide) (oC_Hare g ad T S1) rfl f_Hare_49 d_Hare_claimTaken_15 ?_
  refine dk_iload_n (k := 1) (i := 1) X 1 rfl rfl d_Hare_claimTaken_18 ?_
  refine dk_callVi X v_Scene_has [.int x1] (c_Scene_has l g ad T n x1 S1) 18 (oC_Scene g ad T S1) rfl rfl m_Hare_170 rfl rfl ⟨rfl, rfl, Nat.le_of_ble_eq_true rfl, Nat.le_of_ble_eq_true rfl, Nat.le_refl _, Nat.le_refl _⟩ (Nat.le_of_ble_eq_true rfl) d_Hare_claimTaken_19 hF (fun r4 S3 hF => ?_)
  refine dk_if_ne (tgt := 28) X (by decide) d_Hare_claimTaken_22 hF (fun hF => ?_) (fun hF => ?_)
  · refine dk_aload_n (k := 0) (i := 0) X 0 rfl rfl d_Hare_claimTaken_28 ?_
    refine dk_get X q_Hare 0 4 (by decide) (oC_Hare g ad T S3) rfl f_Hare_49 d_Hare_claimTaken_29 ?_
    refine dk_get X q_Scene 18 3 (by decide) (oC_Scene g ad T S3) rfl f_Hare_171 d_Hare_claimTaken_32 ?_
    refine dk_iload_n (k := 1) (i := 1) X 1 rfl rfl d_Hare_claimTaken_35 ?_
    refine dk_iald X 19 (aC_19 g ad T S3) d_Hare_claimTaken_36 hF (fun v5 hF => ?_)
    refine dk_iload_n (k := 2) (i := 2) X 2 rfl rfl d_Hare_claimTaken_37 ?_
    refine dk_callSi X v_Hare_isOfKind [.int v5, .int x2] (c_Hare_isOfKind l g ad T n v5 x2 S3) m_Hare_304 rfl rfl ⟨rfl, rfl, Nat.le_of_ble_eq_true rfl, Nat.le_of_ble_eq_true rfl, Nat.le_refl _, Nat.le_refl _⟩ (Nat.le_of_ble_eq_true rfl) d_Hare_claimTaken_38 hF (fun r7 S6 hF => ?_)
    refine dk_if_eq (tgt := 56) X (by decide) d_Hare_claimTaken_41 hF (fun hF => ?_) (fun hF => ?_)
    · refine dk_bipush (v := -13) X (by decide) d_Hare_claimTaken_56 ?_
      exact dk_reti hR hF d_Hare_claimTaken_58
    · refine dk_aload_n (k := 0) (i := 0) X 0 rfl rfl d_Hare_claimTaken_44 ?_
      refine dk_get X q_Hare 0 4 (by decide) (oC_Hare g ad T S6) rfl f_Hare_49 d_Hare_claimTaken_45 ?_
      refine dk_get X q_Scene 18 4 (by decide) (oC_Scene g ad T S6) rfl f_Hare_174 d_Hare_claimTaken_48 ?_
      refine dk_iload_n (k := 1) (i := 1) X 1 rfl rfl d_Hare_claimTaken_51 ?_
      refine dk_iald X 20 (aC_20 g ad T S6) d_Hare_claimTaken_52 hF (fun v8 hF => ?_)
      refine dk_goto (tgt := 58) X (by decide) d_Hare_claimTaken_53 ?_
      exact dk_reti hR hF d_Hare_claimTaken_58
  · refine dk_bipush (v := -11) X (by decide) d_Hare_claimTaken_25 ?_
    exact dk_reti hR hF d_Hare_claimTaken_27
def F_Hare_claimTaken (n T : Nat) (x1 : Int32) (x2 : Int32) (S : dk_S) : Option (Int32 × dk_S) := B_Hare_claimTaken_0 n T x1 x2 S
theorem c_Hare_claimTaken (l : Launch) (g : dk_G) (ad : Nat → Nat) (T n : Nat) (x1 : Int32) (x2 : Int32)  (S : dk_S) : dk_Mi l g y_Hare_claimTaken b_Hare_claimTaken 3 rm_Hare_claimTaken (some .int) [.ref (ad 0), .int x1, .int x2] (wC g ad T) S (F_Hare_claimTaken n T x1 x2 S) := dk_enteri (by decide) (Nat.le_of_ble_eq_true rfl) (fun p e s m args below meth c A Q res hF X hR => (kb_Hare_claimTaken_0 (n := n) X hR  hF))
abbrev b_Hare_taken : ByteArray := prog_1_method_33_code
def y_Hare_taken : MethodName := ⟨R_Hare, "taken", "(II)I"⟩
theorem d_Hare_taken_0 : decode b_Hare_taken 0 = .ok (.iload_n 2, 1) := by decide +kernel
theorem d_Hare_taken_1 : decode b_Hare_taken 1 = .ok (.ifCond .lt 9, 3) := by decide +kernel
theorem d_Hare_taken_4 : decode b_Hare_taken 4 = .ok (.iload_n 2, 1) := by decide +kernel
theorem d_Hare_taken_5 : decode b_Hare_taken 5 = .ok (.bipush 6, 2) := by decide +kernel
theorem d_Hare_taken_7 : decode b_Hare_taken 7 = .ok (.if_icmp .le 6, 3) := by decide +kernel
theorem d_Hare_taken_10 : decode b_Hare_taken 10 = .ok (.bipush (-2), 2) := by decide +kernel
theorem d_Hare_taken_12 : decode b_Hare_taken 12 = .ok (.ireturn, 1) := by decide +kernel
theorem d_Hare_taken_13 : decode b_Hare_taken 13 = .ok (.iload_n 1, 1) := by decide +kernel
theorem d_Hare_taken_14 : decode b_Hare_taken 14 = .ok (.ifCond .lt 9, 3) := by decide +kernel
theorem d_Hare_taken_17 : decode b_Hare_taken 17 = .ok (.iload_n 1, 1) := by decide +kernel
theorem d_Hare_taken_18 : decode b_Hare_taken 18 = .ok (.bipush 50, 2) := by decide +kernel
theorem d_Hare_taken_20 : decode b_Hare_taken 20 = .ok (.if_icmp .lt 6, 3) := by decide +kernel
theorem d_Hare_taken_23 : decode b_Hare_taken 23 = .ok (.bipush (-12), 2) := by decide +kernel
theorem d_Hare_taken_25 : decode b_Hare_taken 25 = .ok (.ireturn, 1) := by decide +kernel
theorem d_Hare_taken_26 : decode b_Hare_taken 26 = .ok (.iload_n 1, 1) := by decide +kernel
theorem d_Hare_taken_27 : decode b_Hare_taken 27 = .ok (.bipush 6, 2) := by decide +kernel
theorem d_Hare_taken_29 : decode b_Hare_taken 29 = .ok (.if_icmp .ge 10, 3) := by decide +kernel
theorem d_Hare_taken_32 : decode b_Hare_taken 32 = .ok (.aload_n 0, 1) := by decide +kernel
theorem d_Hare_taken_33 : decode b_Hare_taken 33 = .ok (.iload_n 1, 1) := by decide +kernel
theorem d_Hare_taken_34 : decode b_Hare_taken 34 = .ok (.iload_n 2, 1) := by decide +kernel
theorem d_Hare_taken_35 : decode b_Hare_taken 35 = .ok (.invokevirtual 295, 3) := by decide +kernel
theorem d_Hare_taken_38 : decode b_Hare_taken 38 = .ok (.ireturn, 1) := by decide +kernel
theorem d_Hare_taken_39 : decode b_Hare_taken 39 = .ok (.aload_n 0, 1) := by decide +kernel
theorem d_Hare_taken_40 : decode b_Hare_taken 40 = .ok (.iload_n 1, 1) := by decide +kernel
theorem d_Hare_taken_41 : decode b_Hare_taken 41 = .ok (.bipush 6, 2) := by decide +kernel
theorem d_Hare_taken_43 : decode b_Hare_taken 43 = .ok (.isub, 1) := by decide +kernel
theorem d_Hare_taken_44 : decode b_Hare_taken 44 = .ok (.iload_n 2, 1) := by decide +kernel
theorem d_Hare_taken_45 : decode b_Hare_taken 45 = .ok (.invokevirtual 298, 3) := by decide +kernel
theorem d_Hare_taken_48 : decode b_Hare_taken 48 = .ok (.ireturn, 1) := by decide +kernel
theorem v_Hare_taken : dk_Yv y_Hare_taken b_Hare_taken 3 (some .int) 2 := ⟨dk_in (List.mem_of_getElem? (i := 923) (by decide +kernel)) rfl, dk_in (List.mem_of_getElem? (i := 924) (by decide +kernel)) rfl, dk_in (List.mem_of_getElem? (i := 66) (by decide +kernel)) rfl, dk_in (List.mem_of_getElem? (i := 925) (by decide +kernel)) rfl, by decide +kernel, by decide +kernel, by decide +kernel⟩
abbrev rm_Hare_taken : Room := { frames := 6, cells := 0, slots := 0, locals := 140 }
theorem m_Hare_295 : Cond.methodLink R_Hare 295 y_Hare_beastTaken ∈ dk_tb := dk_in (List.mem_of_getElem? (i := 926) (by decide +kernel)) rfl
theorem m_Hare_298 : Cond.methodLink R_Hare 298 y_Hare_claimTaken ∈ dk_tb := dk_in (List.mem_of_getElem? (i := 930) (by decide +kernel)) rfl
def B_Hare_taken_0 (n T : Nat)  (x1 : Int32) (x2 : Int32) (S : dk_S) : Option (Int32 × dk_S) :=
  if x2 < 0 then (some ((-2 : Int32), S)) else (if x2 ≤ (6 : Int32) then (if x1 < 0 then (some ((-12 : Int32), S)) else (if x1 < (50 : Int32) then (if (6 : Int32) ≤ x1 then (dk_c (F_Hare_claimTaken n T (x1 - (6 : Int32)) x2 S) fun r2 S1 => some (r2, S1)) else (dk_c (F_Hare_beastTaken n T x1 x2 S) fun r4 S3 => some (r4, S3))) else (some ((-12 : Int32), S)))) else (some ((-2 : Int32), S)))
set_option maxRecDepth 20000 in
theorem kb_Hare_taken_0 {p : Program} {l : Launch} {e : Env} {s : State} {m : MethodId} {args : Array Value} {below : List Frame} {meth : Method} {c : Code} {g : dk_G} {A : Nat → Prop} {Q : State → Prop} {ad : Nat → Nat} {T : Nat} {n : Nat} {res : (Int32 × dk_S)} (X : dk_X p s m args meth c b_Hare_taken 3 R_Hare (some .int) g A) (hR : dk_Ri p l e rm_Hare_taken s m args below meth c g A Q 3 b_Hare_taken (some .int) (wC g ad T) res)  {x1 : Int32} {x2 : Int32} {S : dk_S}  (hF : B_Hare_taken_0 n T  x1 x2 S = some res) : dk_J p l e rm_Hare_taken s m args below meth c g A Q 3 0 0 0 [(0, .ref (ad 0)), (1, .int x1), (2, .int x2)] [] (wC g ad T S) := by
  unfold B_Hare_taken_0 at hF
  refine dk_iload_n (k := 2) (i := 2) X 2 rfl rfl d_Hare_taken_0 ?_
  refine dk_if_lt (tgt := 10) X (by decide) d_Hare_taken_1 hF (fun hF => ?_) (fun hF => ?_)
  · refine dk_bipush (v := -2) X (by decide) d_Hare_taken_10 ?_
    exact dk_reti hR hF d_Hare_taken_12
  · refine dk_iload_n (k := 2) (i := 2) X 2 rfl rfl d_Hare_taken_4 ?_
    refine dk_bipush (v := 6) X (by decide) d_Hare_taken_5 ?_
    refine dk_icmp_le (tgt := 13) X (by decide) d_Hare_taken_7 hF (fun hF => ?_) (fun hF => ?_)
    · refine dk_iload_n (k := 1) (i := 1) X 1 rfl rfl d_Hare_taken_13 ?_
      refine dk_if_lt (tgt := 23) X (by decide) d_Hare_taken_14 hF (fun hF => ?_) (fun hF => ?_)
      · refine dk_bipush (v := -12) X (by decide) d_Hare_taken_23 ?_
        exact dk_reti hR hF d_Hare_taken_25
      · refine dk_iload_n (k := 1) (i := 1) X 1 rfl rfl d_Hare_taken_17 ?_
        refine dk_bipush (v := 50) X (by decide) d_Hare_taken_18 ?_
        refine dk_icmp_lt (tgt := 26) X (by decide) d_Hare_taken_20 hF (fun hF => ?_) (fun hF => ?_)
        · refine dk_iload_n (k := 1) (i := 1) X 1 rfl rfl d_Hare_taken_26 ?_
          refine dk_bipush (v := 6) X (by decide) d_Hare_taken_27 ?_
          refine dk_icmp_ge (tgt := 39) X (by decide) d_Hare_taken_29 hF (fun hF => ?_) (fun hF => ?_)
          · refine dk_aload_n (k := 0) (i := 0) X 0 rfl rfl d_Hare_taken_39 ?_
            refine dk_iload_n (k := 1) (i := 1) X 1 rfl rfl d_Hare_taken_40 ?_
            refine dk_bipush (v := 6) X (by decide) d_Hare_taken_41 ?_
            refine dk_isub X d_Hare_taken_43 ?_
            refine dk_iload_n (k := 2) (i := 2) X 2 rfl rfl d_Hare_taken_44 ?_
            refine dk_callVi X v_Hare_claimTaken [.int (x1 - (6 : Int32)), .int x2] (c_Hare_claimTaken l g ad T n (x1 - (6 : Int32)) x2 S) 0 (oC_Hare g ad T S) rfl rfl m_Hare_298 rfl rfl ⟨rfl, rfl, Nat.le_of_ble_eq_true rfl, Nat.le_of_ble_eq_true rfl, Nat.le_refl _, Nat.le_refl _⟩ (Nat.le_of_ble_eq_true rfl) d_Hare_taken_45 hF (fun r2 S1 hF => ?_)
            exact dk_reti hR hF d_Hare_taken_48
          · refine dk_aload_n (k := 0) (i := 0) X 0 rfl rfl d_Hare_taken_32 ?_
            refine dk_iload_n (k := 1) (i := 1) X 1 rfl rfl d_Hare_taken_33 ?_
            refine dk_iload_n (k := 2) (i := 2) X 2 rfl rfl d_Hare_taken_34 ?_
            refine dk_callVi X v_Hare_beastTaken [.int x1, .int x2] (c_Hare_beastTaken l g ad T n x1 x2 S) 0 (oC_Hare g ad T S) rfl rfl m_Hare_295 rfl rfl ⟨rfl, rfl, Nat.le_of_ble_eq_true rfl, Nat.le_of_ble_eq_true rfl, Nat.le_refl _, Nat.le_refl _⟩ (Nat.le_of_ble_eq_true rfl) d_Hare_taken_35 hF (fun r4 S3 hF => ?_)
            exact dk_reti hR hF d_Hare_taken_38
        · refine dk_bipush (v := -12) X (by decide) d_Hare_taken_23 ?_
          exact dk_reti hR hF d_Hare_taken_25
    · refine dk_bipush (v := -2) X (by decide) d_Hare_taken_10 ?_
      exact dk_reti hR hF d_Hare_taken_12
def F_Hare_taken (n T : Nat) (x1 : Int32) (x2 : Int32) (S : dk_S) : Option (Int32 × dk_S) := B_Hare_taken_0 n T x1 x2 S
theorem c_Hare_taken (l : Launch) (g : dk_G) (ad : Nat → Nat) (T n : Nat) (x1 : Int32) (x2 : Int32)  (S : dk_S) : dk_Mi l g y_Hare_taken b_Hare_taken 3 rm_Hare_taken (some .int) [.ref (ad 0), .int x1, .int x2] (wC g ad T) S (F_Hare_taken n T x1 x2 S) := dk_enteri (by decide) (Nat.le_of_ble_eq_true rfl) (fun p e s m args below meth c A Q res hF X hR => (kb_Hare_taken_0 (n := n) X hR  hF))
