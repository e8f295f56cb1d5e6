def R_Prec : String := "jdk/internal/util/Preconditions"
def dk_wfn (j : Nat) : Int32 := dk_wbt.getD j 0
section DK7
variable {p : Program} {l : Launch} {e : Env} {R : Room} {s : State} {m : MethodId} {args : Array Value} {below : List Frame} {meth : Method} {c : Code} {g : dk_G} {A : Nat → Prop} {Q : State → Prop} {nL cells slots pc : Nat} {lv : List (Nat × Value)} {st st0 : List Value} {ws : va_W} {cc : ByteArray} {own : String} {ret : Option FieldType} {wd : dk_S → va_W} {S : dk_S}
theorem dk_i2c (X : dk_X p s m args meth c cc nL own ret g A) {x : Int32} (hdg : decode cc pc = .ok (.i2c, 1))
    (kk : dk_J p l e R s m args below meth c g A Q nL cells slots (pc + 1) lv (.int (x.toUInt32 % 65536).toInt32 :: st) ws) : dk_J p l e R s m args below meth c g A Q nL cells slots pc lv (.int x :: st) ws := fun H locs ls hP hD hS hl =>
  lv_i2c X.1 X.2.1 hdg rfl (kk H locs ls hP hD hS hl)
theorem dk_ldcs (X : dk_X p s m args meth c cc nL R_Reader ret g A) (hdg : decode cc pc = .ok (.ldc 119, 2))
    (kk : dk_J p l e R s m args below meth c g A Q nL cells slots (pc + 2) lv (.ref (g.2.2.1 0) :: st) ws) : dk_J p l e R s m args below meth c g A Q nL cells slots pc lv st ws := fun H locs ls hP hD hS hl =>
  va_ldcS X.1 X.2.1 X.2.2.2.1 X.2.2.2.2.2.2.2.2.2.2.1 hdg (kk H locs ls hP hD hS hl)
theorem dk_sgc (X : dk_X p s m args meth c cc nL own ret g A) {index : Nat} (hlk : Cond.fieldLink own index "java/lang/String" "COMPACT_STRINGS" "Z" ∈ dk_tb) (hdg : decode cc pc = .ok (.getstatic index, 3))
    (kk : dk_J p l e R s m args below meth c g A Q nL cells slots (pc + 3) lv (.int 1 :: st) ws) : dk_J p l e R s m args below meth c g A Q nL cells slots pc lv st ws := fun H locs ls hP hD hS hl =>
  va_gets X.1 X.2.1 X.2.2.2.2.2.2.2.2.2.2.2.1 hS X.2.2.2.1 (X.2.2.2.2.1 _ hlk) (fun _ h => h) hdg (kk H locs ls hP hD hS hl)
theorem dk_sgq (X : dk_X p s m args meth c cc nL own ret g A) {index : Nat} (hlk : Cond.fieldLink own index "jdk/internal/util/Preconditions" "SIOOBE_FORMATTER" "Ljava/util/function/BiFunction;" ∈ dk_tb) (hdg : decode cc pc = .ok (.getstatic index, 3))
    (kn : dk_J p l e R s m args below meth c g A Q nL cells slots (pc + 3) lv (.null :: st) ws) (kr : ∀ t : Nat, dk_J p l e R s m args below meth c g A Q nL cells slots (pc + 3) lv (.ref t :: st) ws) : dk_J p l e R s m args below meth c g A Q nL cells slots pc lv st ws := fun H locs ls hP hD hS hl => by
  rcases X.2.2.2.2.2.2.2.2.2.2.2.2 with h | ⟨t, h⟩
  · exact va_gets X.1 X.2.1 h hS X.2.2.2.1 (X.2.2.2.2.1 _ hlk) (fun _ h => h) hdg (kn H locs ls hP hD hS hl)
  · exact va_gets X.1 X.2.1 h hS X.2.2.2.1 (X.2.2.2.2.1 _ hlk) (fun _ h => h) hdg (kr t H locs ls hP hD hS hl)
theorem dk_sval (X : dk_X p s m args meth c cc nL own ret g A) {index : Nat} (hlk : Cond.fieldLink own index "java/lang/String" "value" "[B" ∈ dk_tb) (hdg : decode cc pc = .ok (.getfield index, 3))
    (kk : dk_J p l e R s m args below meth c g A Q nL cells slots (pc + 3) lv (.ref (g.2.2.2 0) :: st) ws) : dk_J p l e R s m args below meth c g A Q nL cells slots pc lv (.ref (g.2.2.1 0) :: st) ws := fun H locs ls hP hD hS hl =>
  vk_getf X.1 X.2.1 (X.2.2.2.2.2.2.2.2.2.1.1 0 (by decide)).2.2.1 hS X.2.2.2.1 (X.2.2.2.2.1 _ hlk) (fun _ h => h) hdg (kk H locs ls hP hD hS hl)
theorem dk_scod (X : dk_X p s m args meth c cc nL own ret g A) {index : Nat} (hlk : Cond.fieldLink own index "java/lang/String" "coder" "B" ∈ dk_tb) (hdg : decode cc pc = .ok (.getfield index, 3))
    (kk : dk_J p l e R s m args below meth c g A Q nL cells slots (pc + 3) lv (.int 0 :: st) ws) : dk_J p l e R s m args below meth c g A Q nL cells slots pc lv (.ref (g.2.2.1 0) :: st) ws := fun H locs ls hP hD hS hl =>
  vk_getf X.1 X.2.1 (X.2.2.2.2.2.2.2.2.2.1.1 0 (by decide)).2.1 hS X.2.2.2.1 (X.2.2.2.2.1 _ hlk) (fun _ h => h) hdg (kk H locs ls hP hD hS hl)
theorem dk_slen (X : dk_X p s m args meth c cc nL own ret g A) (hdg : decode cc pc = .ok (.arraylength, 1))
    (kk : dk_J p l e R s m args below meth c g A Q nL cells slots (pc + 1) lv (.int (nI 58) :: st) ws) : dk_J p l e R s m args below meth c g A Q nL cells slots pc lv (.ref (g.2.2.2 0) :: st) ws := fun H locs ls hP hD hS hl =>
  va_tlen X.1 X.2.1 (X.2.2.2.2.2.2.2.2.2.1.1 0 (by decide)).2.2.2 hS (v := nI 58) rfl hdg (kk H locs ls hP hD hS hl)
theorem dk_sbld {β : Type} {res : β} {K : Int32 → Option β} (X : dk_X p s m args meth c cc nL own ret g A) {i : Int32} (hdg : decode cc pc = .ok (.baload, 1)) (hF : dk_r 58 dk_wfn i K = some res)
    (kk : ∀ v : Int32, K v = some res → dk_J p l e R s m args below meth c g A Q nL cells slots (pc + 1) lv (.int v :: st) ws) : dk_J p l e R s m args below meth c g A Q nL cells slots pc lv (.int i :: .ref (g.2.2.2 0) :: st) ws := fun H locs ls hP hD hS hl =>
  va_tb X.1 X.2.1 (X.2.2.2.2.2.2.2.2.2.1.1 0 (by decide)).2.2.2 hS (dk_r_out hF).1 (v := .int (dk_wfn i.toNatClampNeg)) rfl hdg (kk _ (dk_r_out hF).2 H locs ls hP hD hS hl)
theorem dk_callTi {β : Type} {res : β} {y : MethodName} {b : ByteArray} {nL2 n idx : Nat} {ret2 : Option FieldType} {rm : Room} {F : Option (Int32 × dk_S)} {K : Int32 → dk_S → Option β} (X : dk_X p s m args meth c cc nL own ret g A) (hy : dk_Yv y b nL2 ret2 n) (hcl : y.cls = "java/lang/String") (As : List Value) (hM : dk_Mi l g y b nL2 rm ret2 (.ref (g.2.2.1 0) :: As) wd S F) (hlk : Cond.methodLink own idx y ∈ dk_tb) (hst : st0 = As.reverse ++ .ref (g.2.2.1 0) :: st) (hAs : As.length = n) (hrm : rm.cells = 0 ∧ rm.slots = 0 ∧ rm.frames + 1 ≤ R.frames ∧ 8 + (nL2 + 11) + rm.locals ≤ R.locals ∧ cells ≤ R.cells ∧ slots ≤ R.slots) (hcat : (st.map fun v => v.category).sum ≤ 8) (hdg : decode cc pc = .ok (.invokevirtual idx, 3)) (hF : dk_c F K = some res)
    (kk : ∀ (r : Int32) (S' : dk_S), K r S' = some res → dk_J p l e R s m args below meth c g A Q nL cells slots (pc + 3) lv (.int r :: st) (wd S')) : dk_J p l e R s m args below meth c g A Q nL cells slots pc lv st0 (wd S) := by
  obtain ⟨v, hv, hF⟩ := dk_c_out hF
  intro H locs ls hP hD hS hl
  obtain ⟨h1, h2, h3, h4, h5, h6⟩ := hrm
  have hx := X
  obtain ⟨x1, x2, x3, x4, x5, x6, -⟩ := X
  have hrecv := vk_recv hx.2.2.2.2.2.2.2.2.2.1 (i := 0) (by decide) hS
  rw [← hcl] at hrecv
  refine va_calli (va_runV (As := As) (rest := st) ⟨x1, x2, x3, x4, x5⟩ (hM H.size v hv) (dk_cwV x5 hy hlk h1 h2 ⟨h3, h4⟩) ⟨dk_In_blind _ _ _ _, hrecv, fun U hU hW => ⟨rfl, dk_start hx hP hD hS U hU hW⟩⟩ rfl hAs hl.1 hst (lv_room hcat) hdg ⟨h5, h6⟩) hS (fun q _ h => dk_free hx hD hS q h) (dk_free hx hD hS) (fun r u t H1 locs1 ht hvm hw hB hz1 hk1 hS1 => ?_)
  obtain ⟨b1, b2, b3⟩ := hB
  cases hw
  rw [ht] at b1
  exact kk r u hF H1 locs1 ls b1 (b3.weaken (fun k q _ h => dk_free hx hD hS q.1 h)) hS1 hl
end DK7

abbrev b_Prec_checkIndex : ByteArray := prog_20_method_11_code
def y_Prec_checkIndex : MethodName := ⟨R_Prec, "checkIndex", "(IILjava/util/function/BiFunction;)I"⟩
theorem d_Prec_checkIndex_0 : decode b_Prec_checkIndex 0 = .ok (.iload_n 0, 1) := by decide +kernel
theorem d_Prec_checkIndex_1 : decode b_Prec_checkIndex 1 = .ok (.ifCond .lt 8, 3) := by decide +kernel
theorem d_Prec_checkIndex_4 : decode b_Prec_checkIndex 4 = .ok (.iload_n 0, 1) := by decide +kernel
theorem d_Prec_checkIndex_5 : decode b_Prec_checkIndex 5 = .ok (.iload_n 1, 1) := by decide +kernel
theorem d_Prec_checkIndex_6 : decode b_Prec_checkIndex 6 = .ok (.if_icmp .lt 10, 3) := by decide +kernel
theorem d_Prec_checkIndex_9 : decode b_Prec_checkIndex 9 = .ok (.aload_n 2, 1) := by decide +kernel
theorem d_Prec_checkIndex_16 : decode b_Prec_checkIndex 16 = .ok (.iload_n 0, 1) := by decide +kernel
theorem d_Prec_checkIndex_17 : decode b_Prec_checkIndex 17 = .ok (.ireturn, 1) := by decide +kernel
theorem v_Prec_checkIndex : dk_Ys y_Prec_checkIndex b_Prec_checkIndex 3 (some .int) 3 := ⟨dk_in (List.mem_of_getElem? (i := 532) (by decide +kernel)) rfl, dk_in (List.mem_of_getElem? (i := 78) (by decide +kernel)) rfl, dk_in (List.mem_of_getElem? (i := 533) (by decide +kernel)) rfl, by decide +kernel, by decide +kernel, by decide +kernel⟩
abbrev rm_Prec_checkIndex : Room := { frames := 0, cells := 0, slots := 0, locals := 0 }
def B_Prec_checkIndex_0 (n T : Nat)  (x0 : Int32) (x1 : Int32) (S : dk_S) : Option (Int32 × dk_S) :=
  if x0 < 0 then (none) else (if x0 < x1 then (some (x0, S)) else (none))
set_option maxRecDepth 20000 in
theorem kb_Prec_checkIndex_0 {p : Program} {l : Launch} {e : Env} {s : State} {m : MethodId} {args : Array Value} {below : List Frame} {meth : Method} {c : Code} {g : dk_G} {A : Nat → Prop} {Q : State → Prop} {ad : Nat → Nat} {T : Nat} {n : Nat} {res : (Int32 × dk_S)} (X : dk_X p s m args meth c b_Prec_checkIndex 3 R_Prec (some .int) g A) (hR : dk_Ri p l e rm_Prec_checkIndex s m args below meth c g A Q 3 b_Prec_checkIndex (some .int) (wC g ad T) res)  {x0 : Int32} {x1 : Int32} {S : dk_S}  (hF : B_Prec_checkIndex_0 n T  x0 x1 S = some res) : dk_J p l e rm_Prec_checkIndex s m args below meth c g A Q 3 0 0 0 [(0, .int x0), (1, .int x1)] [] (wC g ad T S) := by
  unfold B_Prec_checkIndex_0 at hF
  refine dk_iload_n (k := 0) (i := 0) X 0 rfl rfl d_Prec_checkIndex_0 ?_
  refine dk_if_lt (tgt := 9) X (by decide) d_Prec_checkIndex_1 hF (fun hF => ?_) (fun hF => ?_)
  · cases hF
  · refine dk_iload_n (k := 0) (i := 0) X 0 rfl rfl d_Prec_checkIndex_4 ?_
    refine dk_iload_n (k := 1) (i := 1) X 1 rfl rfl d_Prec_checkIndex_5 ?_
    refine dk_icmp_lt (tgt := 16) X (by decide) d_Prec_checkIndex_6 hF (fun hF => ?_) (fun hF => ?_)
    · refine dk_iload_n (k := 0) (i := 0) X 0 rfl rfl d_Prec_checkIndex_16 ?_
      exact dk_reti hR hF d_Prec_checkIndex_17
    · cases hF
def F_Prec_checkIndex (n T : Nat) (x0 : Int32) (x1 : Int32) (S : dk_S) : Option (Int32 × dk_S) := B_Prec_checkIndex_0 n T x0 x1 S
theorem c_Prec_checkIndex (l : Launch) (g : dk_G) (ad : Nat → Nat) (T n : Nat) (x0 : Int32) (x1 : Int32) (ax2 : Nat)  (S : dk_S) : dk_Mi l g y_Prec_checkIndex b_Prec_checkIndex 3 rm_Prec_checkIndex (some .int) [.int x0, .int x1, .ref (ax2)] (wC g ad T) S (F_Prec_checkIndex n T x0 x1 S) := dk_enteri (by decide) (Nat.le_of_ble_eq_true rfl) (fun p e s m args below meth c A Q res hF X hR => dk_sub [0, 1] rfl (kb_Prec_checkIndex_0 (n := n) X hR  hF))
theorem c_Prec_checkIndexN (l : Launch) (g : dk_G) (ad : Nat → Nat) (T n : Nat) (x0 : Int32) (x1 : Int32)  (S : dk_S) : dk_Mi l g y_Prec_checkIndex b_Prec_checkIndex 3 rm_Prec_checkIndex (some .int) [.int x0, .int x1, .null] (wC g ad T) S (F_Prec_checkIndex n T x0 x1 S) := dk_enteri (by decide) (Nat.le_of_ble_eq_true rfl) (fun p e s m args below meth c A Q res hF X hR => dk_sub [0, 1] rfl (kb_Prec_checkIndex_0 (n := n) X hR  hF))
abbrev b_String_checkIndex : ByteArray := prog_15_method_155_code
def y_String_checkIndex : MethodName := ⟨R_String, "checkIndex", "(II)V"⟩
theorem d_String_checkIndex_0 : decode b_String_checkIndex 0 = .ok (.iload_n 0, 1) := by decide +kernel
theorem d_String_checkIndex_1 : decode b_String_checkIndex 1 = .ok (.iload_n 1, 1) := by decide +kernel
theorem d_String_checkIndex_2 : decode b_String_checkIndex 2 = .ok (.getstatic 1053, 3) := by decide +kernel
theorem d_String_checkIndex_5 : decode b_String_checkIndex 5 = .ok (.invokestatic 1059, 3) := by decide +kernel
theorem d_String_checkIndex_8 : decode b_String_checkIndex 8 = .ok (.pop, 1) := by decide +kernel
theorem d_String_checkIndex_9 : decode b_String_checkIndex 9 = .ok (.return_, 1) := by decide +kernel
theorem v_String_checkIndex : dk_Ys y_String_checkIndex b_String_checkIndex 2 (none) 2 := ⟨dk_in (List.mem_of_getElem? (i := 527) (by decide +kernel)) rfl, dk_in (List.mem_of_getElem? (i := 76) (by decide +kernel)) rfl, dk_in (List.mem_of_getElem? (i := 528) (by decide +kernel)) rfl, by decide +kernel, by decide +kernel, by decide +kernel⟩
abbrev rm_String_checkIndex : Room := { frames := 1, cells := 0, slots := 0, locals := 22 }
theorem f_String_1053 : Cond.fieldLink R_String 1053 "jdk/internal/util/Preconditions" "SIOOBE_FORMATTER" "Ljava/util/function/BiFunction;" ∈ dk_tb := dk_in (List.mem_of_getElem? (i := 529) (by decide +kernel)) rfl
theorem m_String_1059 : Cond.methodLink R_String 1059 y_Prec_checkIndex ∈ dk_tb := dk_in (List.mem_of_getElem? (i := 531) (by decide +kernel)) rfl
def B_String_checkIndex_0 (n T : Nat)  (x0 : Int32) (x1 : Int32) (S : dk_S) : Option dk_S :=
  dk_c (F_Prec_checkIndex n T x0 x1 S) fun r2 S1 => some S1
set_option maxRecDepth 20000 in
theorem kb_String_checkIndex_0 {p : Program} {l : Launch} {e : Env} {s : State} {m : MethodId} {args : Array Value} {below : List Frame} {meth : Method} {c : Code} {g : dk_G} {A : Nat → Prop} {Q : State → Prop} {ad : Nat → Nat} {T : Nat} {n : Nat} {res : dk_S} (X : dk_X p s m args meth c b_String_checkIndex 2 R_String (none) g A) (hR : dk_Rv p l e rm_String_checkIndex s m args below meth c g A Q 2 b_String_checkIndex (none) (wC g ad T) res)  {x0 : Int32} {x1 : Int32} {S : dk_S}  (hF : B_String_checkIndex_0 n T  x0 x1 S = some res) : dk_J p l e rm_String_checkIndex s m args below meth c g A Q 2 0 0 0 [(0, .int x0), (1, .int x1)] [] (wC g ad T S) := by
  unfold B_String_checkIndex_0 at hF
  refine dk_iload_n (k := 0) (i := 0) X 0 rfl rfl d_String_checkIndex_0 ?_
  refine dk_iload_n (k := 1) (i := 1) X 1 rfl rfl d_String_checkIndex_1 ?_
  refine dk_sgq X f_String_1053 d_String_checkIndex_2 ?_ (fun a0 => ?_)
  · refine dk_callSi X v_Prec_checkIndex [.int x0, .int x1, .null] (c_Prec_checkIndexN l g ad T n x0 x1 S) m_String_1059 rfl rfl ⟨rfl, rfl, Nat.le_of_ble_eq_true rfl, Nat.le_of_ble_eq_true rfl, Nat.le_refl _, Nat.le_refl _⟩ (Nat.le_of_ble_eq_true rfl) d_String_checkIndex_5 hF (fun r2 S1 hF => ?_)
    refine dk_pop X rfl d_String_checkIndex_8 ?_
    exact dk_retv hR hF d_String_checkIndex_9
  · refine dk_callSi X v_Prec_checkIndex [.int x0, .int x1, .ref (a0)] (c_Prec_checkIndex l g ad T n x0 x1 a0 S) m_String_1059 rfl rfl ⟨rfl, rfl, Nat.le_of_ble_eq_true rfl, Nat.le_of_ble_eq_true rfl, Nat.le_refl _, Nat.le_refl _⟩ (Nat.le_of_ble_eq_true rfl) d_String_checkIndex_5 hF (fun r2 S1 hF => ?_)
    refine dk_pop X rfl d_String_checkIndex_8 ?_
    exact dk_retv hR hF d_String_checkIndex_9
def F_String_checkIndex (n T : Nat) (x0 : Int32) (x1 : Int32) (S : dk_S) : Option dk_S := B_String_checkIndex_0 n T x0 x1 S
theorem c_String_checkIndex (l : Launch) (g : dk_G) (ad : Nat → Nat) (T n : Nat) (x0 : Int32) (x1 : Int32)  (S : dk_S) : dk_Mv l g y_String_checkIndex b_String_checkIndex 2 rm_String_checkIndex (none) [.int x0, .int x1] (wC g ad T) S (F_String_checkIndex n T x0 x1 S) := dk_enterv (by decide) rfl (Nat.le_of_ble_eq_true rfl) (fun p e s m args below meth c A Q res hF X hR => (kb_String_checkIndex_0 (n := n) X hR  hF))
abbrev b_Latin_charAt : ByteArray := prog_16_method_2_code
def y_Latin_charAt : MethodName := ⟨R_Latin, "charAt", "([BI)C"⟩
theorem d_Latin_charAt_0 : decode b_Latin_charAt 0 = .ok (.iload_n 1, 1) := by decide +kernel
theorem d_Latin_charAt_1 : decode b_Latin_charAt 1 = .ok (.aload_n 0, 1) := by decide +kernel
theorem d_Latin_charAt_2 : decode b_Latin_charAt 2 = .ok (.arraylength, 1) := by decide +kernel
theorem d_Latin_charAt_3 : decode b_Latin_charAt 3 = .ok (.invokestatic 9, 3) := by decide +kernel
theorem d_Latin_charAt_6 : decode b_Latin_charAt 6 = .ok (.aload_n 0, 1) := by decide +kernel
theorem d_Latin_charAt_7 : decode b_Latin_charAt 7 = .ok (.iload_n 1, 1) := by decide +kernel
theorem d_Latin_charAt_8 : decode b_Latin_charAt 8 = .ok (.baload, 1) := by decide +kernel
theorem d_Latin_charAt_9 : decode b_Latin_charAt 9 = .ok (.sipush 255, 3) := by decide +kernel
theorem d_Latin_charAt_12 : decode b_Latin_charAt 12 = .ok (.iand, 1) := by decide +kernel
theorem d_Latin_charAt_13 : decode b_Latin_charAt 13 = .ok (.i2c, 1) := by decide +kernel
theorem d_Latin_charAt_14 : decode b_Latin_charAt 14 = .ok (.ireturn, 1) := by decide +kernel
theorem v_Latin_charAt : dk_Ys y_Latin_charAt b_Latin_charAt 2 (some .char) 2 := ⟨dk_in (List.mem_of_getElem? (i := 524) (by decide +kernel)) rfl, dk_in (List.mem_of_getElem? (i := 77) (by decide +kernel)) rfl, dk_in (List.mem_of_getElem? (i := 525) (by decide +kernel)) rfl, by decide +kernel, by decide +kernel, by decide +kernel⟩
abbrev rm_Latin_charAt : Room := { frames := 2, cells := 0, slots := 0, locals := 43 }
theorem m_Latin_9 : Cond.methodLink R_Latin 9 y_String_checkIndex ∈ dk_tb := dk_in (List.mem_of_getElem? (i := 526) (by decide +kernel)) rfl
def B_Latin_charAt_0 (n T : Nat)  (x1 : Int32) (S : dk_S) : Option (Int32 × dk_S) :=
  dk_cv (F_String_checkIndex n T x1 (nI 58) S) fun S1 => dk_r 58 dk_wfn x1 fun v3 => dk_nr .char ((v3 &&& (255 : Int32)).toUInt32 % 65536).toInt32 (some (((v3 &&& (255 : Int32)).toUInt32 % 65536).toInt32, S1))
set_option maxRecDepth 20000 in
theorem kb_Latin_charAt_0 {p : Program} {l : Launch} {e : Env} {s : State} {m : MethodId} {args : Array Value} {below : List Frame} {meth : Method} {c : Code} {g : dk_G} {A : Nat → Prop} {Q : State → Prop} {ad : Nat → Nat} {T : Nat} {n : Nat} {res : (Int32 × dk_S)} (X : dk_X p s m args meth c b_Latin_charAt 2 R_Latin (some .char) g A) (hR : dk_Ri p l e rm_Latin_charAt s m args below meth c g A Q 2 b_Latin_charAt (some .char) (wC g ad T) res)  {x1 : Int32} {S : dk_S}  (hF : B_Latin_charAt_0 n T  x1 S = some res) : dk_J p l e rm_Latin_charAt s m args below meth c g A Q 2 0 0 0 [(0, .ref (g.2.2.2 0)), (1, .int x1)] [] (wC g ad T S) := by
  unfold B_Latin_charAt_0 at hF
  refine dk_iload_n (k := 1) (i := 1) X 1 rfl rfl d_Latin_charAt_0 ?_
  refine dk_aload_n (k := 0) (i := 0) X 0 rfl rfl d_Latin_charAt_1 ?_
  refine dk_slen X d_Latin_charAt_2 ?_
  refine dk_callSv X v_String_checkIndex [.int x1, .int (nI 58)] (c_String_checkIndex l g ad T n x1 (nI 58) S) m_Latin_9 rfl rfl ⟨rfl, rfl, Nat.le_of_ble_eq_true rfl, Nat.le_of_ble_eq_true rfl, Nat.le_refl _, Nat.le_refl _⟩ (Nat.le_of_ble_eq_true rfl) d_Latin_charAt_3 hF (fun S1 hF => ?_)
  refine dk_aload_n (k := 0) (i := 0) X 0 rfl rfl d_Latin_charAt_6 ?_
  refine dk_iload_n (k := 1) (i := 1) X 1 rfl rfl d_Latin_charAt_7 ?_
  refine dk_sbld X d_Latin_charAt_8 hF (fun v3 hF => ?_)
  refine dk_sipush (v := 255) X (by decide) d_Latin_charAt_9 ?_
  refine dk_iand X d_Latin_charAt_12 ?_
  refine dk_i2c X d_Latin_charAt_13 ?_
  exact dk_retn hR hF d_Latin_charAt_14
def F_Latin_charAt (n T : Nat) (x1 : Int32) (S : dk_S) : Option (Int32 × dk_S) := B_Latin_charAt_0 n T x1 S
theorem c_Latin_charAt (l : Launch) (g : dk_G) (ad : Nat → Nat) (T n : Nat) (x1 : Int32)  (S : dk_S) : dk_Mi l g y_Latin_charAt b_Latin_charAt 2 rm_Latin_charAt (some .char) [.ref (g.2.2.2 0), .int x1] (wC g ad T) S (F_Latin_charAt n T x1 S) := dk_enteri (by decide) (Nat.le_of_ble_eq_true rfl) (fun p e s m args below meth c A Q res hF X hR => (kb_Latin_charAt_0 (n := n) X hR  hF))
abbrev b_String_coder : ByteArray := prog_15_method_152_code
def y_String_coder : MethodName := ⟨R_String, "coder", "()B"⟩
theorem d_String_coder_0 : decode b_String_coder 0 = .ok (.getstatic 38, 3) := by decide +kernel
theorem d_String_coder_3 : decode b_String_coder 3 = .ok (.ifCond .eq 10, 3) := by decide +kernel
theorem d_String_coder_6 : decode b_String_coder 6 = .ok (.aload_n 0, 1) := by decide +kernel
theorem d_String_coder_7 : decode b_String_coder 7 = .ok (.getfield 15, 3) := by decide +kernel
theorem d_String_coder_10 : decode b_String_coder 10 = .ok (.goto 4, 3) := by decide +kernel
theorem d_String_coder_13 : decode b_String_coder 13 = .ok (.iconst 1, 1) := by decide +kernel
theorem d_String_coder_14 : decode b_String_coder 14 = .ok (.ireturn, 1) := by decide +kernel
theorem v_String_coder : dk_Yv y_String_coder b_String_coder 1 (some .byte) 0 := ⟨dk_in (List.mem_of_getElem? (i := 510) (by decide +kernel)) rfl, dk_in (List.mem_of_getElem? (i := 511) (by decide +kernel)) rfl, dk_in (List.mem_of_getElem? (i := 76) (by decide +kernel)) rfl, dk_in (List.mem_of_getElem? (i := 512) (by decide +kernel)) rfl, by decide +kernel, by decide +kernel, by decide +kernel⟩
abbrev rm_String_coder : Room := { frames := 0, cells := 0, slots := 0, locals := 0 }
theorem f_String_15 : Cond.fieldLink R_String 15 "java/lang/String" "coder" "B" ∈ dk_tb := dk_in (List.mem_of_getElem? (i := 1399) (by decide +kernel)) rfl
theorem f_String_38 : Cond.fieldLink R_String 38 "java/lang/String" "COMPACT_STRINGS" "Z" ∈ dk_tb := dk_in (List.mem_of_getElem? (i := 513) (by decide +kernel)) rfl
def B_String_coder_0 (n T : Nat)   (S : dk_S) : Option (Int32 × dk_S) :=
  if (1 : Int32) = 0 then (dk_nr .byte (1 : Int32) (some ((1 : Int32), S))) else (dk_nr .byte (0 : Int32) (some ((0 : Int32), S)))
set_option maxRecDepth 20000 in
theorem kb_String_coder_0 {p : Program} {l : Launch} {e : Env} {s : State} {m : MethodId} {args : Array Value} {below : List Frame} {meth : Method} {c : Code} {g : dk_G} {A : Nat → Prop} {Q : State → Prop} {ad : Nat → Nat} {T : Nat} {n : Nat} {res : (Int32 × dk_S)} (X : dk_X p s m args meth c b_String_coder 1 R_String (some .byte) g A) (hR : dk_Ri p l e rm_String_coder s m args below meth c g A Q 1 b_String_coder (some .byte) (wC g ad T) res)   {S : dk_S}  (hF : B_String_coder_0 n T   S = some res) : dk_J p l e rm_String_coder s m args below meth c g A Q 1 0 0 0 [(0, .ref (g.2.2.1 0))] [] (wC g ad T S) := by
  unfold B_String_coder_0 at hF
  refine dk_sgc X f_String_38 d_String_coder_0 ?_
  refine dk_if_eq (tgt := 13) X (by decide) d_String_coder_3 hF (fun hF => ?_) (fun hF => ?_)
  · refine dk_iconst (v := 1) X (by decide) d_String_coder_13 ?_
    exact dk_retn hR hF d_String_coder_14
  · refine dk_aload_n (k := 0) (i := 0) X 0 rfl rfl d_String_coder_6 ?_
    refine dk_scod X f_String_15 d_String_coder_7 ?_
    refine dk_goto (tgt := 14) X (by decide) d_String_coder_10 ?_
    exact dk_retn hR hF d_String_coder_14
def F_String_coder (n T : Nat)  (S : dk_S) : Option (Int32 × dk_S) := B_String_coder_0 n T  S
theorem c_String_coder (l : Launch) (g : dk_G) (ad : Nat → Nat) (T n : Nat)   (S : dk_S) : dk_Mi l g y_String_coder b_String_coder 1 rm_String_coder (some .byte) [.ref (g.2.2.1 0)] (wC g ad T) S (F_String_coder n T  S) := dk_enteri (by decide) (Nat.le_of_ble_eq_true rfl) (fun p e s m args below meth c A Q res hF X hR => (kb_String_coder_0 (n := n) X hR  hF))
abbrev b_String_isLatin1 : ByteArray := prog_15_method_154_code
def y_String_isLatin1 : MethodName := ⟨R_String, "isLatin1", "()Z"⟩
theorem d_String_isLatin1_0 : decode b_String_isLatin1 0 = .ok (.getstatic 38, 3) := by decide +kernel
theorem d_String_isLatin1_3 : decode b_String_isLatin1 3 = .ok (.ifCond .eq 14, 3) := by decide +kernel
theorem d_String_isLatin1_6 : decode b_String_isLatin1 6 = .ok (.aload_n 0, 1) := by decide +kernel
theorem d_String_isLatin1_7 : decode b_String_isLatin1 7 = .ok (.getfield 15, 3) := by decide +kernel
theorem d_String_isLatin1_10 : decode b_String_isLatin1 10 = .ok (.ifCond .ne 7, 3) := by decide +kernel
theorem d_String_isLatin1_13 : decode b_String_isLatin1 13 = .ok (.iconst 1, 1) := by decide +kernel
theorem d_String_isLatin1_14 : decode b_String_isLatin1 14 = .ok (.goto 4, 3) := by decide +kernel
theorem d_String_isLatin1_17 : decode b_String_isLatin1 17 = .ok (.iconst 0, 1) := by decide +kernel
theorem d_String_isLatin1_18 : decode b_String_isLatin1 18 = .ok (.ireturn, 1) := by decide +kernel
theorem v_String_isLatin1 : dk_Yv y_String_isLatin1 b_String_isLatin1 1 (some .boolean) 0 := ⟨dk_in (List.mem_of_getElem? (i := 520) (by decide +kernel)) rfl, dk_in (List.mem_of_getElem? (i := 521) (by decide +kernel)) rfl, dk_in (List.mem_of_getElem? (i := 76) (by decide +kernel)) rfl, dk_in (List.mem_of_getElem? (i := 522) (by decide +kernel)) rfl, by decide +kernel, by decide +kernel, by decide +kernel⟩
abbrev rm_String_isLatin1 : Room := { frames := 0, cells := 0, slots := 0, locals := 0 }
def B_String_isLatin1_0 (n T : Nat)   (S : dk_S) : Option (Int32 × dk_S) :=
  if (1 : Int32) = 0 then (dk_b (0 : Int32) (some ((0 : Int32), S))) else (if ¬ (0 : Int32) = 0 then (dk_b (0 : Int32) (some ((0 : Int32), S))) else (dk_b (1 : Int32) (some ((1 : Int32), S))))
set_option maxRecDepth 20000 in
theorem kb_String_isLatin1_0 {p : Program} {l : Launch} {e : Env} {s : State} {m : MethodId} {args : Array Value} {below : List Frame} {meth : Method} {c : Code} {g : dk_G} {A : Nat → Prop} {Q : State → Prop} {ad : Nat → Nat} {T : Nat} {n : Nat} {res : (Int32 × dk_S)} (X : dk_X p s m args meth c b_String_isLatin1 1 R_String (some .boolean) g A) (hR : dk_Ri p l e rm_String_isLatin1 s m args below meth c g A Q 1 b_String_isLatin1 (some .boolean) (wC g ad T) res)   {S : dk_S}  (hF : B_String_isLatin1_0 n T   S = some res) : dk_J p l e rm_String_isLatin1 s m args below meth c g A Q 1 0 0 0 [(0, .ref (g.2.2.1 0))] [] (wC g ad T S) := by
  unfold B_String_isLatin1_0 at hF
  refine dk_sgc X f_String_38 d_String_isLatin1_0 ?_
  refine dk_if_eq (tgt := 17) X (by decide) d_String_isLatin1_3 hF (fun hF => ?_) (fun hF => ?_)
  · refine dk_iconst (v := 0) X (by decide) d_String_isLatin1_17 ?_
    exact dk_retz hR hF d_String_isLatin1_18
  · refine dk_aload_n (k := 0) (i := 0) X 0 rfl rfl d_String_isLatin1_6 ?_
    refine dk_scod X f_String_15 d_String_isLatin1_7 ?_
    refine dk_if_ne (tgt := 17) X (by decide) d_String_isLatin1_10 hF (fun hF => ?_) (fun hF => ?_)
    · refine dk_iconst (v := 0) X (by decide) d_String_isLatin1_17 ?_
      exact dk_retz hR hF d_String_isLatin1_18
    · refine dk_iconst (v := 1) X (by decide) d_String_isLatin1_13 ?_
      refine dk_goto (tgt := 18) X (by decide) d_String_isLatin1_14 ?_
      exact dk_retz hR hF d_String_isLatin1_18
def F_String_isLatin1 (n T : Nat)  (S : dk_S) : Option (Int32 × dk_S) := B_String_isLatin1_0 n T  S
theorem c_String_isLatin1 (l : Launch) (g : dk_G) (ad : Nat → Nat) (T n : Nat)   (S : dk_S) : dk_Mi l g y_String_isLatin1 b_String_isLatin1 1 rm_String_isLatin1 (some .boolean) [.ref (g.2.2.1 0)] (wC g ad T) S (F_String_isLatin1 n T  S) := dk_enteri (by decide) (Nat.le_of_ble_eq_true rfl) (fun p e s m args below meth c A Q res hF X hR => (kb_String_isLatin1_0 (n := n) X hR  hF))
abbrev b_String_charAt : ByteArray := prog_15_method_56_code
def y_String_charAt : MethodName := ⟨R_String, "charAt", "(I)C"⟩
theorem d_String_charAt_0 : decode b_String_charAt 0 = .ok (.aload_n 0, 1) := by decide +kernel
theorem d_String_charAt_1 : decode b_String_charAt 1 = .ok (.invokevirtual 492, 3) := by decide +kernel
theorem d_String_charAt_4 : decode b_String_charAt 4 = .ok (.ifCond .eq 12, 3) := by decide +kernel
theorem d_String_charAt_7 : decode b_String_charAt 7 = .ok (.aload_n 0, 1) := by decide +kernel
theorem d_String_charAt_8 : decode b_String_charAt 8 = .ok (.getfield 9, 3) := by decide +kernel
theorem d_String_charAt_11 : decode b_String_charAt 11 = .ok (.iload_n 1, 1) := by decide +kernel
theorem d_String_charAt_12 : decode b_String_charAt 12 = .ok (.invokestatic 495, 3) := by decide +kernel
theorem d_String_charAt_15 : decode b_String_charAt 15 = .ok (.ireturn, 1) := by decide +kernel
theorem d_String_charAt_16 : decode b_String_charAt 16 = .ok (.aload_n 0, 1) := by decide +kernel
theorem v_String_charAt : dk_Yv y_String_charAt b_String_charAt 2 (some .char) 1 := ⟨dk_in (List.mem_of_getElem? (i := 516) (by decide +kernel)) rfl, dk_in (List.mem_of_getElem? (i := 517) (by decide +kernel)) rfl, dk_in (List.mem_of_getElem? (i := 76) (by decide +kernel)) rfl, dk_in (List.mem_of_getElem? (i := 518) (by decide +kernel)) rfl, by decide +kernel, by decide +kernel, by decide +kernel⟩
abbrev rm_String_charAt : Room := { frames := 3, cells := 0, slots := 0, locals := 64 }
theorem f_String_9 : Cond.fieldLink R_String 9 "java/lang/String" "value" "[B" ∈ dk_tb := dk_in (List.mem_of_getElem? (i := 1398) (by decide +kernel)) rfl
theorem m_String_492 : Cond.methodLink R_String 492 y_String_isLatin1 ∈ dk_tb := dk_in (List.mem_of_getElem? (i := 519) (by decide +kernel)) rfl
theorem m_String_495 : Cond.methodLink R_String 495 y_Latin_charAt ∈ dk_tb := dk_in (List.mem_of_getElem? (i := 523) (by decide +kernel)) rfl
def B_String_charAt_0 (n T : Nat)  (x1 : Int32) (S : dk_S) : Option (Int32 × dk_S) :=
  dk_c (F_String_isLatin1 n T S) fun r2 S1 => if r2 = 0 then (none) else (dk_c (F_Latin_charAt n T x1 S1) fun r4 S3 => dk_nr .char r4 (some (r4, S3)))
set_option maxRecDepth 20000 in
theorem kb_String_charAt_0 {p : Program} {l : Launch} {e : Env} {s : State} {m : MethodId} {args : Array Value} {below : List Frame} {meth : Method} {c : Code} {g : dk_G} {A : Nat → Prop} {Q : State → Prop} {ad : Nat → Nat} {T : Nat} {n : Nat} {res : (Int32 × dk_S)} (X : dk_X p s m args meth c b_String_charAt 2 R_String (some .char) g A) (hR : dk_Ri p l e rm_String_charAt s m args below meth c g A Q 2 b_String_charAt (some .char) (wC g ad T) res)  {x1 : Int32} {S : dk_S}  (hF : B_String_charAt_0 n T  x1 S = some res) : dk_J p l e rm_String_charAt s m args below meth c g A Q 2 0 0 0 [(0, .ref (g.2.2.1 0)), (1, .int x1)] [] (wC g ad T S) := by
  unfold B_String_charAt_0 at hF
  refine dk_aload_n (k := 0) (i := 0) X 0 rfl rfl d_String_charAt_0 ?_
  refine dk_callTi X v_String_isLatin1 rfl [] (c_String_isLatin1 l g ad T n S) m_String_492 rfl rfl ⟨rfl, rfl, Nat.le_of_ble_eq_true rfl, Nat.le_of_ble_eq_true rfl, Nat.le_refl _, Nat.le_refl _⟩ (Nat.le_of_ble_eq_true rfl) d_String_charAt_1 hF (fun r2 S1 hF => ?_)
  refine dk_if_eq (tgt := 16) X (by decide) d_String_charAt_4 hF (fun hF => ?_) (fun hF => ?_)
  · cases hF
  · refine dk_aload_n (k := 0) (i := 0) X 0 rfl rfl d_String_charAt_7 ?_
    refine dk_sval X f_String_9 d_String_charAt_8 ?_
    refine dk_iload_n (k := 1) (i := 1) X 1 rfl rfl d_String_charAt_11 ?_
    refine dk_callSi X v_Latin_charAt [.ref (g.2.2.2 0), .int x1] (c_Latin_charAt l g ad T n x1 S1) m_String_495 rfl rfl ⟨rfl, rfl, Nat.le_of_ble_eq_true rfl, Nat.le_of_ble_eq_true rfl, Nat.le_refl _, Nat.le_refl _⟩ (Nat.le_of_ble_eq_true rfl) d_String_charAt_12 hF (fun r4 S3 hF => ?_)
    exact dk_retn hR hF d_String_charAt_15
def F_String_charAt (n T : Nat) (x1 : Int32) (S : dk_S) : Option (Int32 × dk_S) := B_String_charAt_0 n T x1 S
theorem c_String_charAt (l : Launch) (g : dk_G) (ad : Nat → Nat) (T n : Nat) (x1 : Int32)  (S : dk_S) : dk_Mi l g y_String_charAt b_String_charAt 2 rm_String_charAt (some .char) [.ref (g.2.2.1 0), .int x1] (wC g ad T) S (F_String_charAt n T x1 S) := dk_enteri (by decide) (Nat.le_of_ble_eq_true rfl) (fun p e s m args below meth c A Q res hF X hR => (kb_String_charAt_0 (n := n) X hR  hF))
abbrev b_String_length : ByteArray := prog_15_method_54_code
def y_String_length : MethodName := ⟨R_String, "length", "()I"⟩
theorem d_String_length_0 : decode b_String_length 0 = .ok (.aload_n 0, 1) := by decide +kernel
theorem d_String_length_1 : decode b_String_length 1 = .ok (.getfield 9, 3) := by decide +kernel
theorem d_String_length_4 : decode b_String_length 4 = .ok (.arraylength, 1) := by decide +kernel
theorem d_String_length_5 : decode b_String_length 5 = .ok (.aload_n 0, 1) := by decide +kernel
theorem d_String_length_6 : decode b_String_length 6 = .ok (.invokevirtual 335, 3) := by decide +kernel
theorem d_String_length_9 : decode b_String_length 9 = .ok (.ishr, 1) := by decide +kernel
theorem d_String_length_10 : decode b_String_length 10 = .ok (.ireturn, 1) := by decide +kernel
theorem v_String_length : dk_Yv y_String_length b_String_length 1 (some .int) 0 := ⟨dk_in (List.mem_of_getElem? (i := 506) (by decide +kernel)) rfl, dk_in (List.mem_of_getElem? (i := 507) (by decide +kernel)) rfl, dk_in (List.mem_of_getElem? (i := 76) (by decide +kernel)) rfl, dk_in (List.mem_of_getElem? (i := 508) (by decide +kernel)) rfl, by decide +kernel, by decide +kernel, by decide +kernel⟩
abbrev rm_String_length : Room := { frames := 1, cells := 0, slots := 0, locals := 20 }
theorem m_String_335 : Cond.methodLink R_String 335 y_String_coder ∈ dk_tb := dk_in (List.mem_of_getElem? (i := 509) (by decide +kernel)) rfl
def B_String_length_0 (n T : Nat)   (S : dk_S) : Option (Int32 × dk_S) :=
  dk_c (F_String_coder n T S) fun r2 S1 => some (((nI 58) >>> (r2 &&& 31)), S1)
set_option maxRecDepth 20000 in
theorem kb_String_length_0 {p : Program} {l : Launch} {e : Env} {s : State} {m : MethodId} {args : Array Value} {below : List Frame} {meth : Method} {c : Code} {g : dk_G} {A : Nat → Prop} {Q : State → Prop} {ad : Nat → Nat} {T : Nat} {n : Nat} {res : (Int32 × dk_S)} (X : dk_X p s m args meth c b_String_length 1 R_String (some .int) g A) (hR : dk_Ri p l e rm_String_length s m args below meth c g A Q 1 b_String_length (some .int) (wC g ad T) res)   {S : dk_S}  (hF : B_String_length_0 n T   S = some res) : dk_J p l e rm_String_length s m args below meth c g A Q 1 0 0 0 [(0, .ref (g.2.2.1 0))] [] (wC g ad T S) := by
  unfold B_String_length_0 at hF
  refine dk_aload_n (k := 0) (i := 0) X 0 rfl rfl d_String_length_0 ?_
  refine dk_sval X f_String_9 d_String_length_1 ?_
  refine dk_slen X d_String_length_4 ?_
  refine dk_aload_n (k := 0) (i := 0) X 0 rfl rfl d_String_length_5 ?_
  refine dk_callTi X v_String_coder rfl [] (c_String_coder l g ad T n S) m_String_335 rfl rfl ⟨rfl, rfl, Nat.le_of_ble_eq_true rfl, Nat.le_of_ble_eq_true rfl, Nat.le_refl _, Nat.le_refl _⟩ (Nat.le_of_ble_eq_true rfl) d_String_length_6 hF (fun r2 S1 hF => ?_)
  refine dk_ishr X d_String_length_9 ?_
  exact dk_reti hR hF d_String_length_10
def F_String_length (n T : Nat)  (S : dk_S) : Option (Int32 × dk_S) := B_String_length_0 n T  S
theorem c_String_length (l : Launch) (g : dk_G) (ad : Nat → Nat) (T n : Nat)   (S : dk_S) : dk_Mi l g y_String_length b_String_length 1 rm_String_length (some .int) [.ref (g.2.2.1 0)] (wC g ad T) S (F_String_length n T  S) := dk_enteri (by decide) (Nat.le_of_ble_eq_true rfl) (fun p e s m args below meth c A Q res hF X hR => (kb_String_length_0 (n := n) X hR  hF))
abbrev b_Reader_append : ByteArray := prog_5_method_2_code
def y_Reader_append : MethodName := ⟨R_Reader, "append", "(JI)I"⟩
theorem d_Reader_append_0 : decode b_Reader_append 0 = .ok (.aload_n 0, 1) := by decide +kernel
theorem d_Reader_append_1 : decode b_Reader_append 1 = .ok (.getfield 19, 3) := by decide +kernel
theorem d_Reader_append_4 : decode b_Reader_append 4 = .ok (.iload_n 3, 1) := by decide +kernel
theorem d_Reader_append_5 : decode b_Reader_append 5 = .ok (.iadd, 1) := by decide +kernel
theorem d_Reader_append_6 : decode b_Reader_append 6 = .ok (.sipush 160, 3) := by decide +kernel
theorem d_Reader_append_9 : decode b_Reader_append 9 = .ok (.if_icmp .le 6, 3) := by decide +kernel
theorem d_Reader_append_12 : decode b_Reader_append 12 = .ok (.bipush (-4), 2) := by decide +kernel
theorem d_Reader_append_14 : decode b_Reader_append 14 = .ok (.ireturn, 1) := by decide +kernel
theorem d_Reader_append_15 : decode b_Reader_append 15 = .ok (.iload_n 3, 1) := by decide +kernel
theorem d_Reader_append_16 : decode b_Reader_append 16 = .ok (.iconst 1, 1) := by decide +kernel
theorem d_Reader_append_17 : decode b_Reader_append 17 = .ok (.isub, 1) := by decide +kernel
theorem d_Reader_append_18 : decode b_Reader_append 18 = .ok (.istore 4, 2) := by decide +kernel
theorem d_Reader_append_20 : decode b_Reader_append 20 = .ok (.iload 4, 2) := by decide +kernel
theorem d_Reader_append_22 : decode b_Reader_append 22 = .ok (.ifCond .lt 37, 3) := by decide +kernel
theorem d_Reader_append_25 : decode b_Reader_append 25 = .ok (.aload_n 0, 1) := by decide +kernel
theorem d_Reader_append_26 : decode b_Reader_append 26 = .ok (.getfield 9, 3) := by decide +kernel
theorem d_Reader_append_29 : decode b_Reader_append 29 = .ok (.aload_n 0, 1) := by decide +kernel
theorem d_Reader_append_30 : decode b_Reader_append 30 = .ok (.getfield 19, 3) := by decide +kernel
theorem d_Reader_append_33 : decode b_Reader_append 33 = .ok (.lload_n 1, 1) := by decide +kernel
theorem d_Reader_append_34 : decode b_Reader_append 34 = .ok (.bipush 8, 2) := by decide +kernel
theorem d_Reader_append_36 : decode b_Reader_append 36 = .ok (.iload 4, 2) := by decide +kernel
theorem d_Reader_append_38 : decode b_Reader_append 38 = .ok (.imul, 1) := by decide +kernel
theorem d_Reader_append_39 : decode b_Reader_append 39 = .ok (.lshr, 1) := by decide +kernel
theorem d_Reader_append_40 : decode b_Reader_append 40 = .ok (.l2i, 1) := by decide +kernel
theorem d_Reader_append_41 : decode b_Reader_append 41 = .ok (.i2b, 1) := by decide +kernel
theorem d_Reader_append_42 : decode b_Reader_append 42 = .ok (.bastore, 1) := by decide +kernel
theorem d_Reader_append_43 : decode b_Reader_append 43 = .ok (.aload_n 0, 1) := by decide +kernel
theorem d_Reader_append_44 : decode b_Reader_append 44 = .ok (.dup, 1) := by decide +kernel
theorem d_Reader_append_45 : decode b_Reader_append 45 = .ok (.getfield 19, 3) := by decide +kernel
theorem d_Reader_append_48 : decode b_Reader_append 48 = .ok (.iconst 1, 1) := by decide +kernel
theorem d_Reader_append_49 : decode b_Reader_append 49 = .ok (.iadd, 1) := by decide +kernel
theorem d_Reader_append_50 : decode b_Reader_append 50 = .ok (.putfield 19, 3) := by decide +kernel
theorem d_Reader_append_53 : decode b_Reader_append 53 = .ok (.iinc 4 (-1), 3) := by decide +kernel
theorem d_Reader_append_56 : decode b_Reader_append 56 = .ok (.goto (-36), 3) := by decide +kernel
theorem d_Reader_append_59 : decode b_Reader_append 59 = .ok (.aload_n 0, 1) := by decide +kernel
theorem d_Reader_append_60 : decode b_Reader_append 60 = .ok (.getfield 19, 3) := by decide +kernel
theorem d_Reader_append_63 : decode b_Reader_append 63 = .ok (.ireturn, 1) := by decide +kernel
theorem v_Reader_append : dk_Yv y_Reader_append b_Reader_append 5 (some .int) 2 := ⟨dk_in (List.mem_of_getElem? (i := 478) (by decide +kernel)) rfl, dk_in (List.mem_of_getElem? (i := 479) (by decide +kernel)) rfl, dk_in (List.mem_of_getElem? (i := 69) (by decide +kernel)) rfl, dk_in (List.mem_of_getElem? (i := 480) (by decide +kernel)) rfl, by decide +kernel, by decide +kernel, by decide +kernel⟩
abbrev rm_Reader_append : Room := { frames := 0, cells := 0, slots := 0, locals := 0 }
theorem f_Reader_19 : Cond.fieldLink R_Reader 19 (T_Reader 1).1 (T_Reader 1).2.1 (T_Reader 1).2.2.1 ∈ dk_tb := dk_in (List.mem_of_getElem? (i := 175) (by decide +kernel)) rfl
theorem f_Reader_9 : Cond.fieldLink R_Reader 9 (T_Reader 0).1 (T_Reader 0).2.1 (T_Reader 0).2.2.1 ∈ dk_tb := dk_in (List.mem_of_getElem? (i := 174) (by decide +kernel)) rfl
def B_Reader_append_20b (n T : Nat) (k20 : Int64 → Int32 → dk_S → Option (Int32 × dk_S)) (x1 : Int64) (x4 : Int32) (S : dk_S) : Option (Int32 × dk_S) :=
  if x4 < 0 then (some ((S 105 0), S)) else (dk_w S 13 160 (S 105 0) (vp_nar .byte (x1 >>> (((8 : Int32) * x4).toInt64 &&& 63)).toInt32.toInt8.toInt32) fun S1 => dk_p S1 105 ((S1 105 0) + (1 : Int32)) fun S2 => k20 x1 (x4 + (-1 : Int32)) S2)
set_option maxRecDepth 20000 in
theorem kb_Reader_append_20b {p : Program} {l : Launch} {e : Env} {s : State} {m : MethodId} {args : Array Value} {below : List Frame} {meth : Method} {c : Code} {g : dk_G} {A : Nat → Prop} {Q : State → Prop} {ad : Nat → Nat} {T : Nat} {n : Nat} {res : (Int32 × dk_S)} (X : dk_X p s m args meth c b_Reader_append 5 R_Reader (some .int) g A) (hR : dk_Ri p l e rm_Reader_append s m args below meth c g A Q 5 b_Reader_append (some .int) (wC g ad T) res) {k20 : Int64 → Int32 → dk_S → Option (Int32 × dk_S)} (hk20 : ∀ (x1 : Int64) (x4 : Int32)  (S : dk_S), k20 x1 x4 S = some res → dk_J p l e rm_Reader_append s m args below meth c g A Q 5 0 0 20 [(0, .ref (ad 12)), (1, .long x1), (4, .int x4)] [] (wC g ad T S)) {x1 : Int64} {x4 : Int32} {S : dk_S}  (hF : B_Reader_append_20b n T k20 x1 x4 S = some res) : dk_J p l e rm_Reader_append s m args below meth c g A Q 5 0 0 20 [(0, .ref (ad 12)), (1, .long x1), (4, .int x4)] [] (wC g ad T S) := by
  unfold B_Reader_append_20b at hF
  refine dk_iload (i := 4) X 2 rfl d_Reader_append_20 ?_
  refine dk_if_lt (tgt := 59) X (by decide) d_Reader_append_22 hF (fun hF => ?_) (fun hF => ?_)
  · refine dk_aload_n (k := 0) (i := 0) X 0 rfl rfl d_Reader_append_59 ?_
    refine dk_get X q_Reader 12 1 (by decide) (oC_Reader g ad T S) rfl f_Reader_19 d_Reader_append_60 ?_
    exact dk_reti hR hF d_Reader_append_63
  · refine dk_aload_n (k := 0) (i := 0) X 0 rfl rfl d_Reader_append_25 ?_
    refine dk_get X q_Reader 12 0 (by decide) (oC_Reader g ad T S) rfl f_Reader_9 d_Reader_append_26 ?_
    refine dk_aload_n (k := 0) (i := 0) X 0 rfl rfl d_Reader_append_29 ?_
    refine dk_get X q_Reader 12 1 (by decide) (oC_Reader g ad T S) rfl f_Reader_19 d_Reader_append_30 ?_
    refine dk_lload_n (k := 1) (i := 1) X 1 rfl rfl d_Reader_append_33 ?_
    refine dk_bipush (v := 8) X (by decide) d_Reader_append_34 ?_
    refine dk_iload (i := 4) X 2 rfl d_Reader_append_36 ?_
    refine dk_imul X d_Reader_append_38 ?_
    refine dk_lshr X d_Reader_append_39 ?_
    refine dk_l2i X d_Reader_append_40 ?_
    refine dk_i2b X d_Reader_append_41 ?_
    refine dk_bast X 13 (aC_13 g ad T S) (sC_13 g ad T S _ _) d_Reader_append_42 hF (fun S1 hF => ?_)
    refine dk_aload_n (k := 0) (i := 0) X 0 rfl rfl d_Reader_append_43 ?_
    refine dk_dup X rfl d_Reader_append_44 ?_
    refine dk_get X q_Reader 12 1 (by decide) (oC_Reader g ad T S1) rfl f_Reader_19 d_Reader_append_45 ?_
    refine dk_iconst (v := 1) X (by decide) d_Reader_append_48 ?_
    refine dk_iadd X d_Reader_append_49 ?_
    refine dk_puti X q_Reader 12 1 (by decide) (oC_Reader g ad T S1) f_Reader_19 rfl rfl (Nat.le_of_ble_eq_true rfl) (sC_Reader_size g ad T S1 _) d_Reader_append_50 hF (fun S2 hF => ?_)
    refine dk_iinc (i := 4) (v := (x4 + (-1 : Int32))) (lv' := [(4, .int (x4 + (-1 : Int32))), (0, .ref (ad 12)), (1, .long x1)]) X 2 rfl (dk_ii _ (by decide)) (by decide) rfl d_Reader_append_53 ?_
    refine dk_goto (tgt := 20) X (by decide) d_Reader_append_56 ?_
    exact dk_sub [1, 2, 0] rfl (hk20 x1 (x4 + (-1 : Int32)) S2 hF)
def B_Reader_append_20 (n T : Nat)  : Nat → Int64 → Int32 → dk_S → Option (Int32 × dk_S)
  | 0 => fun _ _ _ => none
  | q + 1 => fun x1 x4 S => B_Reader_append_20b n T (fun x1 x4 S => B_Reader_append_20 n T  q x1 x4 S) x1 x4 S
theorem kb_Reader_append_20 {p : Program} {l : Launch} {e : Env} {s : State} {m : MethodId} {args : Array Value} {below : List Frame} {meth : Method} {c : Code} {g : dk_G} {A : Nat → Prop} {Q : State → Prop} {ad : Nat → Nat} {T : Nat} {n : Nat} {res : (Int32 × dk_S)} (X : dk_X p s m args meth c b_Reader_append 5 R_Reader (some .int) g A) (hR : dk_Ri p l e rm_Reader_append s m args below meth c g A Q 5 b_Reader_append (some .int) (wC g ad T) res)  : ∀ (q : Nat) (x1 : Int64) (x4 : Int32)  (S : dk_S), B_Reader_append_20 n T  q x1 x4 S = some res → dk_J p l e rm_Reader_append s m args below meth c g A Q 5 0 0 20 [(0, .ref (ad 12)), (1, .long x1), (4, .int x4)] [] (wC g ad T S) := by
  intro q
  induction q with
  | zero => intro x1 x4  S hF; cases hF
  | succ q ih => intro x1 x4  S hF; exact kb_Reader_append_20b (n := n) X hR ih  hF
def B_Reader_append_0 (n T : Nat)  (x1 : Int64) (x3 : Int32) (S : dk_S) : Option (Int32 × dk_S) :=
  if ((S 105 0) + x3) ≤ (160 : Int32) then (B_Reader_append_20 n T  n x1 (x3 - (1 : Int32)) S) else (some ((-4 : Int32), S))
set_option maxRecDepth 20000 in
theorem kb_Reader_append_0 {p : Program} {l : Launch} {e : Env} {s : State} {m : MethodId} {args : Array Value} {below : List Frame} {meth : Method} {c : Code} {g : dk_G} {A : Nat → Prop} {Q : State → Prop} {ad : Nat → Nat} {T : Nat} {n : Nat} {res : (Int32 × dk_S)} (X : dk_X p s m args meth c b_Reader_append 5 R_Reader (some .int) g A) (hR : dk_Ri p l e rm_Reader_append s m args below meth c g A Q 5 b_Reader_append (some .int) (wC g ad T) res)  {x1 : Int64} {x3 : Int32} {S : dk_S}  (hF : B_Reader_append_0 n T  x1 x3 S = some res) : dk_J p l e rm_Reader_append s m args below meth c g A Q 5 0 0 0 [(0, .ref (ad 12)), (1, .long x1), (3, .int x3)] [] (wC g ad T S) := by
  unfold B_Reader_append_0 at hF
  refine dk_aload_n (k := 0) (i := 0) X 0 rfl rfl d_Reader_append_0 ?_
  refine dk_get X q_Reader 12 1 (by decide) (oC_Reader g ad T S) rfl f_Reader_19 d_Reader_append_1 ?_
  refine dk_iload_n (k := 3) (i := 3) X 2 rfl rfl d_Reader_append_4 ?_
  refine dk_iadd X d_Reader_append_5 ?_
  refine dk_sipush (v := 160) X (by decide) d_Reader_append_6 ?_
  refine dk_icmp_le (tgt := 15) X (by decide) d_Reader_append_9 hF (fun hF => ?_) (fun hF => ?_)
  · refine dk_iload_n (k := 3) (i := 3) X 2 rfl rfl d_Reader_append_15 ?_
    refine dk_iconst (v := 1) X (by decide) d_Reader_append_16 ?_
    refine dk_isub X d_Reader_append_17 ?_
    refine dk_istore (i := 4) (lv' := [(4, .int (x3 - (1 : Int32))), (0, .ref (ad 12)), (1, .long x1), (3, .int x3)]) X (by decide) rfl d_Reader_append_18 ?_
    exact dk_sub [1, 2, 0] rfl (kb_Reader_append_20 (n := n) X hR  n x1 (x3 - (1 : Int32)) S hF)
  · refine dk_bipush (v := -4) X (by decide) d_Reader_append_12 ?_
    exact dk_reti hR hF d_Reader_append_14
def F_Reader_append (n T : Nat) (x1 : Int64) (x3 : Int32) (S : dk_S) : Option (Int32 × dk_S) := B_Reader_append_0 n T x1 x3 S
theorem c_Reader_append (l : Launch) (g : dk_G) (ad : Nat → Nat) (T n : Nat) (x1 : Int64) (x3 : Int32)  (S : dk_S) : dk_Mi l g y_Reader_append b_Reader_append 5 rm_Reader_append (some .int) [.ref (ad 12), .long x1, .int x3] (wC g ad T) S (F_Reader_append n T x1 x3 S) := dk_enteri (by decide) (Nat.le_of_ble_eq_true rfl) (fun p e s m args below meth c A Q res hF X hR => (kb_Reader_append_0 (n := n) X hR  hF))
abbrev b_Reader_isLetter : ByteArray := prog_5_method_21_code
def y_Reader_isLetter : MethodName := ⟨R_Reader, "isLetter", "(I)Z"⟩
theorem d_Reader_isLetter_0 : decode b_Reader_isLetter 0 = .ok (.iload_n 0, 1) := by decide +kernel
theorem d_Reader_isLetter_1 : decode b_Reader_isLetter 1 = .ok (.bipush 97, 2) := by decide +kernel
theorem d_Reader_isLetter_3 : decode b_Reader_isLetter 3 = .ok (.if_icmp .lt 13, 3) := by decide +kernel
theorem d_Reader_isLetter_6 : decode b_Reader_isLetter 6 = .ok (.iload_n 0, 1) := by decide +kernel
theorem d_Reader_isLetter_7 : decode b_Reader_isLetter 7 = .ok (.bipush 122, 2) := by decide +kernel
theorem d_Reader_isLetter_9 : decode b_Reader_isLetter 9 = .ok (.if_icmp .gt 7, 3) := by decide +kernel
theorem d_Reader_isLetter_12 : decode b_Reader_isLetter 12 = .ok (.iconst 1, 1) := by decide +kernel
theorem d_Reader_isLetter_13 : decode b_Reader_isLetter 13 = .ok (.goto 4, 3) := by decide +kernel
theorem d_Reader_isLetter_16 : decode b_Reader_isLetter 16 = .ok (.iconst 0, 1) := by decide +kernel
theorem d_Reader_isLetter_17 : decode b_Reader_isLetter 17 = .ok (.ireturn, 1) := by decide +kernel
theorem v_Reader_isLetter : dk_Ys y_Reader_isLetter b_Reader_isLetter 1 (some .boolean) 1 := ⟨dk_in (List.mem_of_getElem? (i := 494) (by decide +kernel)) rfl, dk_in (List.mem_of_getElem? (i := 69) (by decide +kernel)) rfl, dk_in (List.mem_of_getElem? (i := 495) (by decide +kernel)) rfl, by decide +kernel, by decide +kernel, by decide +kernel⟩
abbrev rm_Reader_isLetter : Room := { frames := 0, cells := 0, slots := 0, locals := 0 }
def B_Reader_isLetter_0 (n T : Nat)  (x0 : Int32) (S : dk_S) : Option (Int32 × dk_S) :=
  if x0 < (97 : Int32) then (dk_b (0 : Int32) (some ((0 : Int32), S))) else (if (122 : Int32) < x0 then (dk_b (0 : Int32) (some ((0 : Int32), S))) else (dk_b (1 : Int32) (some ((1 : Int32), S))))
set_option maxRecDepth 20000 in
theorem kb_Reader_isLetter_0 {p : Program} {l : Launch} {e : Env} {s : State} {m : MethodId} {args : Array Value} {below : List Frame} {meth : Method} {c : Code} {g : dk_G} {A : Nat → Prop} {Q : State → Prop} {ad : Nat → Nat} {T : Nat} {n : Nat} {res : (Int32 × dk_S)} (X : dk_X p s m args meth c b_Reader_isLetter 1 R_Reader (some .boolean) g A) (hR : dk_Ri p l e rm_Reader_isLetter s m args below meth c g A Q 1 b_Reader_isLetter (some .boolean) (wC g ad T) res)  {x0 : Int32} {S : dk_S}  (hF : B_Reader_isLetter_0 n T  x0 S = some res) : dk_J p l e rm_Reader_isLetter s m args below meth c g A Q 1 0 0 0 [(0, .int x0)] [] (wC g ad T S) := by
  unfold B_Reader_isLetter_0 at hF
  refine dk_iload_n (k := 0) (i := 0) X 0 rfl rfl d_Reader_isLetter_0 ?_
  refine dk_bipush (v := 97) X (by decide) d_Reader_isLetter_1 ?_
  refine dk_icmp_lt (tgt := 16) X (by decide) d_Reader_isLetter_3 hF (fun hF => ?_) (fun hF => ?_)
  · refine dk_iconst (v := 0) X (by decide) d_Reader_isLetter_16 ?_
    exact dk_retz hR hF d_Reader_isLetter_17
  · refine dk_iload_n (k := 0) (i := 0) X 0 rfl rfl d_Reader_isLetter_6 ?_
    refine dk_bipush (v := 122) X (by decide) d_Reader_isLetter_7 ?_
    refine dk_icmp_gt (tgt := 16) X (by decide) d_Reader_isLetter_9 hF (fun hF => ?_) (fun hF => ?_)
    · refine dk_iconst (v := 0) X (by decide) d_Reader_isLetter_16 ?_
      exact dk_retz hR hF d_Reader_isLetter_17
    · refine dk_iconst (v := 1) X (by decide) d_Reader_isLetter_12 ?_
      refine dk_goto (tgt := 17) X (by decide) d_Reader_isLetter_13 ?_
      exact dk_retz hR hF d_Reader_isLetter_17
def F_Reader_isLetter (n T : Nat) (x0 : Int32) (S : dk_S) : Option (Int32 × dk_S) := B_Reader_isLetter_0 n T x0 S
theorem c_Reader_isLetter (l : Launch) (g : dk_G) (ad : Nat → Nat) (T n : Nat) (x0 : Int32)  (S : dk_S) : dk_Mi l g y_Reader_isLetter b_Reader_isLetter 1 rm_Reader_isLetter (some .boolean) [.int x0] (wC g ad T) S (F_Reader_isLetter n T x0 S) := dk_enteri (by decide) (Nat.le_of_ble_eq_true rfl) (fun p e s m args below meth c A Q res hF X hR => (kb_Reader_isLetter_0 (n := n) X hR  hF))
abbrev b_Reader_isDigit : ByteArray := prog_5_method_22_code
def y_Reader_isDigit : MethodName := ⟨R_Reader, "isDigit", "(I)Z"⟩
theorem d_Reader_isDigit_0 : decode b_Reader_isDigit 0 = .ok (.iload_n 0, 1) := by decide +kernel
theorem d_Reader_isDigit_1 : decode b_Reader_isDigit 1 = .ok (.bipush 48, 2) := by decide +kernel
theorem d_Reader_isDigit_3 : decode b_Reader_isDigit 3 = .ok (.if_icmp .lt 13, 3) := by decide +kernel
theorem d_Reader_isDigit_6 : decode b_Reader_isDigit 6 = .ok (.iload_n 0, 1) := by decide +kernel
theorem d_Reader_isDigit_7 : decode b_Reader_isDigit 7 = .ok (.bipush 57, 2) := by decide +kernel
theorem d_Reader_isDigit_9 : decode b_Reader_isDigit 9 = .ok (.if_icmp .gt 7, 3) := by decide +kernel
theorem d_Reader_isDigit_12 : decode b_Reader_isDigit 12 = .ok (.iconst 1, 1) := by decide +kernel
theorem d_Reader_isDigit_13 : decode b_Reader_isDigit 13 = .ok (.goto 4, 3) := by decide +kernel
theorem d_Reader_isDigit_16 : decode b_Reader_isDigit 16 = .ok (.iconst 0, 1) := by decide +kernel
theorem d_Reader_isDigit_17 : decode b_Reader_isDigit 17 = .ok (.ireturn, 1) := by decide +kernel
theorem v_Reader_isDigit : dk_Ys y_Reader_isDigit b_Reader_isDigit 1 (some .boolean) 1 := ⟨dk_in (List.mem_of_getElem? (i := 554) (by decide +kernel)) rfl, dk_in (List.mem_of_getElem? (i := 69) (by decide +kernel)) rfl, dk_in (List.mem_of_getElem? (i := 555) (by decide +kernel)) rfl, by decide +kernel, by decide +kernel, by decide +kernel⟩
abbrev rm_Reader_isDigit : Room := { frames := 0, cells := 0, slots := 0, locals := 0 }
def B_Reader_isDigit_0 (n T : Nat)  (x0 : Int32) (S : dk_S) : Option (Int32 × dk_S) :=
  if x0 < (48 : Int32) then (dk_b (0 : Int32) (some ((0 : Int32), S))) else (if (57 : Int32) < x0 then (dk_b (0 : Int32) (some ((0 : Int32), S))) else (dk_b (1 : Int32) (some ((1 : Int32), S))))
set_option maxRecDepth 20000 in
theorem kb_Reader_isDigit_0 {p : Program} {l : Launch} {e : Env} {s : State} {m : MethodId} {args : Array Value} {below : List Frame} {meth : Method} {c : Code} {g : dk_G} {A : Nat → Prop} {Q : State → Prop} {ad : Nat → Nat} {T : Nat} {n : Nat} {res : (Int32 × dk_S)} (X : dk_X p s m args meth c b_Reader_isDigit 1 R_Reader (some .boolean) g A) (hR : dk_Ri p l e rm_Reader_isDigit s m args below meth c g A Q 1 b_Reader_isDigit (some .boolean) (wC g ad T) res)  {x0 : Int32} {S : dk_S}  (hF : B_Reader_isDigit_0 n T  x0 S = some res) : dk_J p l e rm_Reader_isDigit s m args below meth c g A Q 1 0 0 0 [(0, .int x0)] [] (wC g ad T S) := by
  unfold B_Reader_isDigit_0 at hF
  refine dk_iload_n (k := 0) (i := 0) X 0 rfl rfl d_Reader_isDigit_0 ?_
  refine dk_bipush (v := 48) X (by decide) d_Reader_isDigit_1 ?_
  refine dk_icmp_lt (tgt := 16) X (by decide) d_Reader_isDigit_3 hF (fun hF => ?_) (fun hF => ?_)
  · refine dk_iconst (v := 0) X (by decide) d_Reader_isDigit_16 ?_
    exact dk_retz hR hF d_Reader_isDigit_17
  · refine dk_iload_n (k := 0) (i := 0) X 0 rfl rfl d_Reader_isDigit_6 ?_
    refine dk_bipush (v := 57) X (by decide) d_Reader_isDigit_7 ?_
    refine dk_icmp_gt (tgt := 16) X (by decide) d_Reader_isDigit_9 hF (fun hF => ?_) (fun hF => ?_)
    · refine dk_iconst (v := 0) X (by decide) d_Reader_isDigit_16 ?_
      exact dk_retz hR hF d_Reader_isDigit_17
    · refine dk_iconst (v := 1) X (by decide) d_Reader_isDigit_12 ?_
      refine dk_goto (tgt := 17) X (by decide) d_Reader_isDigit_13 ?_
      exact dk_retz hR hF d_Reader_isDigit_17
def F_Reader_isDigit (n T : Nat) (x0 : Int32) (S : dk_S) : Option (Int32 × dk_S) := B_Reader_isDigit_0 n T x0 S
theorem c_Reader_isDigit (l : Launch) (g : dk_G) (ad : Nat → Nat) (T n : Nat) (x0 : Int32)  (S : dk_S) : dk_Mi l g y_Reader_isDigit b_Reader_isDigit 1 rm_Reader_isDigit (some .boolean) [.int x0] (wC g ad T) S (F_Reader_isDigit n T x0 S) := dk_enteri (by decide) (Nat.le_of_ble_eq_true rfl) (fun p e s m args below meth c A Q res hF X hR => (kb_Reader_isDigit_0 (n := n) X hR  hF))
abbrev b_Reader_isSign : ByteArray := prog_5_method_23_code
def y_Reader_isSign : MethodName := ⟨R_Reader, "isSign", "(I)Z"⟩
theorem d_Reader_isSign_0 : decode b_Reader_isSign 0 = .ok (.iload_n 0, 1) := by decide +kernel
theorem d_Reader_isSign_1 : decode b_Reader_isSign 1 = .ok (.tableswitch 105 40 61 #[103, 103, 103, 103, 105, 103, 105, 105, 105, 105, 105, 105, 105, 105, 105, 105, 105, 105, 105, 103, 103, 103], 103) := by decide +kernel
theorem d_Reader_isSign_104 : decode b_Reader_isSign 104 = .ok (.iconst 1, 1) := by decide +kernel
theorem d_Reader_isSign_105 : decode b_Reader_isSign 105 = .ok (.ireturn, 1) := by decide +kernel
theorem d_Reader_isSign_106 : decode b_Reader_isSign 106 = .ok (.iconst 0, 1) := by decide +kernel
theorem d_Reader_isSign_107 : decode b_Reader_isSign 107 = .ok (.ireturn, 1) := by decide +kernel
theorem v_Reader_isSign : dk_Ys y_Reader_isSign b_Reader_isSign 1 (some .boolean) 1 := ⟨dk_in (List.mem_of_getElem? (i := 561) (by decide +kernel)) rfl, dk_in (List.mem_of_getElem? (i := 69) (by decide +kernel)) rfl, dk_in (List.mem_of_getElem? (i := 562) (by decide +kernel)) rfl, by decide +kernel, by decide +kernel, by decide +kernel⟩
abbrev rm_Reader_isSign : Room := { frames := 0, cells := 0, slots := 0, locals := 0 }
def B_Reader_isSign_0 (n T : Nat)  (x0 : Int32) (S : dk_S) : Option (Int32 × dk_S) :=
  if x0 = (40 : Int32) then (dk_b (1 : Int32) (some ((1 : Int32), S))) else (if x0 = (41 : Int32) then (dk_b (1 : Int32) (some ((1 : Int32), S))) else (if x0 = (42 : Int32) then (dk_b (1 : Int32) (some ((1 : Int32), S))) else (if x0 = (43 : Int32) then (dk_b (1 : Int32) (some ((1 : Int32), S))) else (if x0 = (44 : Int32) then (dk_b (0 : Int32) (some ((0 : Int32), S))) else (if x0 = (45 : Int32) then (dk_b (1 : Int32) (some ((1 : Int32), S))) else (if x0 = (46 : Int32) then (dk_b (0 : Int32) (some ((0 : Int32), S))) else (if x0 = (47 : Int32) then (dk_b (0 : Int32) (some ((0 : Int32), S))) else (if x0 = (48 : Int32) then (dk_b (0 : Int32) (some ((0 : Int32), S))) else (if x0 = (49 : Int32) then (dk_b (0 : Int32) (some ((0 : Int32), S))) else (if x0 = (50 : Int32) then (dk_b (0 : Int32) (some ((0 : Int32), S))) else (if x0 = (51 : Int32) then (dk_b (0 : Int32) (some ((0 : Int32), S))) else (if x0 = (52 : Int32) then (dk_b (0 : Int32) (some ((0 : Int32), S))) else (if x0 = (53 : Int32) then (dk_b (0 : Int32) (some ((0 : Int32), S))) else (if x0 = (54 : Int32) then (dk_b (0 : Int32) (some ((0 : Int32), S))) else (if x0 = (55 : Int32) then (dk_b (0 : Int32) (some ((0 : Int32), S))) else (if x0 = (56 : Int32) then (dk_b (0 : Int32) (some ((0 : Int32), S))) else (if x0 = (57 : Int32) then (dk_b (0 : Int32) (some ((0 : Int32), S))) else (if x0 = (58 : Int32) then (dk_b (0 : Int32) (some ((0 : Int32), S))) else (if x0 = (59 : Int32) then (dk_b (1 : Int32) (some ((1 : Int32), S))) else (if x0 = (60 : Int32) then (dk_b (1 : Int32) (some ((1 : Int32), S))) else (if x0 = (61 : Int32) then (dk_b (1 : Int32) (some ((1 : Int32), S))) else (dk_b (0 : Int32) (some ((0 : Int32), S))))))))))))))))))))))))
set_option maxRecDepth 20000 in
theorem kb_Reader_isSign_0 {p : Program} {l : Launch} {e : Env} {s : State} {m : MethodId} {args : Array Value} {below : List Frame} {meth : Method} {c : Code} {g : dk_G} {A : Nat → Prop} {Q : State → Prop} {ad : Nat → Nat} {T : Nat} {n : Nat} {res : (Int32 × dk_S)} (X : dk_X p s m args meth c b_Reader_isSign 1 R_Reader (some .boolean) g A) (hR : dk_Ri p l e rm_Reader_isSign s m args below meth c g A Q 1 b_Reader_isSign (some .boolean) (wC g ad T) res)  {x0 : Int32} {S : dk_S}  (hF : B_Reader_isSign_0 n T  x0 S = some res) : dk_J p l e rm_Reader_isSign s m args below meth c g A Q 1 0 0 0 [(0, .int x0)] [] (wC g ad T S) := by
  unfold B_Reader_isSign_0 at hF
  refine dk_iload_n (k := 0) (i := 0) X 0 rfl rfl d_Reader_isSign_0 ?_
  refine dk_if hF (fun hc40 hF => ?_) (fun hc40 hF => ?_)
  · refine dk_tsIn (v := 40) (tgt := 104) X d_Reader_isSign_1 (by rw [hc40]; decide) (by decide) (by decide) rfl (by decide) ?_
    refine dk_iconst (v := 1) X (by decide) d_Reader_isSign_104 ?_
    exact dk_retz hR hF d_Reader_isSign_105
  · refine dk_if hF (fun hc41 hF => ?_) (fun hc41 hF => ?_)
    · refine dk_tsIn (v := 41) (tgt := 104) X d_Reader_isSign_1 (by rw [hc41]; decide) (by decide) (by decide) rfl (by decide) ?_
      refine dk_iconst (v := 1) X (by decide) d_Reader_isSign_104 ?_
      exact dk_retz hR hF d_Reader_isSign_105
    · refine dk_if hF (fun hc42 hF => ?_) (fun hc42 hF => ?_)
      · refine dk_tsIn (v := 42) (tgt := 104) X d_Reader_isSign_1 (by rw [hc42]; decide) (by decide) (by decide) rfl (by decide) ?_
        refine dk_iconst (v := 1) X (by decide) d_Reader_isSign_104 ?_
        exact dk_retz hR hF d_Reader_isSign_105
      · refine dk_if hF (fun hc43 hF => ?_) (fun hc43 hF => ?_)
        · refine dk_tsIn (v := 43) (tgt := 104) X d_Reader_isSign_1 (by rw [hc43]; decide) (by decide) (by decide) rfl (by decide) ?_
          refine dk_iconst (v := 1) X (by decide) d_Reader_isSign_104 ?_
          exact dk_retz hR hF d_Reader_isSign_105
        · refine dk_if hF (fun hc44 hF => ?_) (fun hc44 hF => ?_)
          · refine dk_tsIn (v := 44) (tgt := 106) X d_Reader_isSign_1 (by rw [hc44]; decide) (by decide) (by decide) rfl (by decide) ?_
            refine dk_iconst (v := 0) X (by decide) d_Reader_isSign_106 ?_
            exact dk_retz hR hF d_Reader_isSign_107
          · refine dk_if hF (fun hc45 hF => ?_) (fun hc45 hF => ?_)
            · refine dk_tsIn (v := 45) (tgt := 104) X d_Reader_isSign_1 (by rw [hc45]; decide) (by decide) (by decide) rfl (by decide) ?_
              refine dk_iconst (v := 1) X (by decide) d_Reader_isSign_104 ?_
              exact dk_retz hR hF d_Reader_isSign_105
            · refine dk_if hF (fun hc46 hF => ?_) (fun hc46 hF => ?_)
              · refine dk_tsIn (v := 46) (tgt := 106) X d_Reader_isSign_1 (by rw [hc46]; decide) (by decide) (by decide) rfl (by decide) ?_
                refine dk_iconst (v := 0) X (by decide) d_Reader_isSign_106 ?_
                exact dk_retz hR hF d_Reader_isSign_107
              · refine dk_if hF (fun hc47 hF => ?_) (fun hc47 hF => ?_)
                · refine dk_tsIn (v := 47) (tgt := 106) X d_Reader_isSign_1 (by rw [hc47]; decide) (by decide) (by decide) rfl (by decide) ?_
                  refine dk_iconst (v := 0) X (by decide) d_Reader_isSign_106 ?_
                  exact dk_retz hR hF d_Reader_isSign_107
                · refine dk_if hF (fun hc48 hF => ?_) (fun hc48 hF => ?_)
                  · refine dk_tsIn (v := 48) (tgt := 106) X d_Reader_isSign_1 (by rw [hc48]; decide) (by decide) (by decide) rfl (by decide) ?_
                    refine dk_iconst (v := 0) X (by decide) d_Reader_isSign_106 ?_
                    exact dk_retz hR hF d_Reader_isSign_107
                  · refine dk_if hF (fun hc49 hF => ?_) (fun hc49 hF => ?_)
                    · refine dk_tsIn (v := 49) (tgt := 106) X d_Reader_isSign_1 (by rw [hc49]; decide) (by decide) (by decide) rfl (by decide) ?_
                      refine dk_iconst (v := 0) X (by decide) d_Reader_isSign_106 ?_
                      exact dk_retz hR hF d_Reader_isSign_107
                    · refine dk_if hF (fun hc50 hF => ?_) (fun hc50 hF => ?_)
                      · refine dk_tsIn (v := 50) (tgt := 106) X d_Reader_isSign_1 (by rw [hc50]; decide) (by decide) (by decide) rfl (by decide) ?_
                        refine dk_iconst (v := 0) X (by decide) d_Reader_isSign_106 ?_
                        exact dk_retz hR hF d_Reader_isSign_107
                      · refine dk_if hF (fun hc51 hF => ?_) (fun hc51 hF => ?_)
                        · refine dk_tsIn (v := 51) (tgt := 106) X d_Reader_isSign_1 (by rw [hc51]; decide) (by decide) (by decide) rfl (by decide) ?_
                          refine dk_iconst (v := 0) X (by decide) d_Reader_isSign_106 ?_
                          exact dk_retz hR hF d_Reader_isSign_107
                        · refine dk_if hF (fun hc52 hF => ?_) (fun hc52 hF => ?_)
                          · refine dk_tsIn (v := 52) (tgt := 106) X d_Reader_isSign_1 (by rw [hc52]; decide) (by decide) (by decide) rfl (by decide) ?_
                            refine dk_iconst (v := 0) X (by decide) d_Reader_isSign_106 ?_
                            exact dk_retz hR hF d_Reader_isSign_107
                          · refine dk_if hF (fun hc53 hF => ?_) (fun hc53 hF => ?_)
                            · refine dk_tsIn (v := 53) (tgt := 106) X d_Reader_isSign_1 (by rw [hc53]; decide) (by decide) (by decide) rfl (by decide) ?_
                              refine dk_iconst (v := 0) X (by decide) d_Reader_isSign_106 ?_
                              exact dk_retz hR hF d_Reader_isSign_107
                            · refine dk_if hF (fun hc54 hF => ?_) (fun hc54 hF => ?_)
                              · refine dk_tsIn (v := 54) (tgt := 106) X d_Reader_isSign_1 (by rw [hc54]; decide) (by decide) (by decide) rfl (by decide) ?_
                                refine dk_iconst (v := 0) X (by decide) d_Reader_isSign_106 ?_
                                exact dk_retz hR hF d_Reader_isSign_107
                              · refine dk_if hF (fun hc55 hF => ?_) (fun hc55 hF => ?_)
                                · refine dk_tsIn (v := 55) (tgt := 106) X d_Reader_isSign_1 (by rw [hc55]; decide) (by decide) (by decide) rfl (by decide) ?_
                                  refine dk_iconst (v := 0) X (by decide) d_Reader_isSign_106 ?_
                                  exact dk_retz hR hF d_Reader_isSign_107
                                · refine dk_if hF (fun hc56 hF => ?_) (fun hc56 hF => ?_)
                                  · refine dk_tsIn (v := 56) (tgt := 106) X d_Reader_isSign_1 (by rw [hc56]; decide) (by decide) (by decide) rfl (by decide) ?_
                                    refine dk_iconst (v := 0) X (by decide) d_Reader_isSign_106 ?_
                                    exact dk_retz hR hF d_Reader_isSign_107
                                  · refine dk_if hF (fun hc57 hF => ?_) (fun hc57 hF => ?_)
                                    · refine dk_tsIn (v := 57) (tgt := 106) X d_Reader_isSign_1 (by rw [hc57]; decide) (by decide) (by decide) rfl (by decide) ?_
                                      refine dk_iconst (v := 0) X (by decide) d_Reader_isSign_106 ?_
                                      exact dk_retz hR hF d_Reader_isSign_107
                                    · refine dk_if hF (fun hc58 hF => ?_) (fun hc58 hF => ?_)
                                      · refine dk_tsIn (v := 58) (tgt := 106) X d_Reader_isSign_1 (by rw [hc58]; decide) (by decide) (by decide) rfl (by decide) ?_
                                        refine dk_iconst (v := 0) X (by decide) d_Reader_isSign_106 ?_
                                        exact dk_retz hR hF d_Reader_isSign_107
                                      · refine dk_if hF (fun hc59 hF => ?_) (fun hc59 hF => ?_)
                                        · refine dk_tsIn (v := 59) (tgt := 104) X d_Reader_isSign_1 (by rw [hc59]; decide) (by decide) (by decide) rfl (by decide) ?_
                                          refine dk_iconst (v := 1) X (by decide) d_Reader_isSign_104 ?_
                                          exact dk_retz hR hF d_Reader_isSign_105
                                        · refine dk_if hF (fun hc60 hF => ?_) (fun hc60 hF => ?_)
                                          · refine dk_tsIn (v := 60) (tgt := 104) X d_Reader_isSign_1 (by rw [hc60]; decide) (by decide) (by decide) rfl (by decide) ?_
                                            refine dk_iconst (v := 1) X (by decide) d_Reader_isSign_104 ?_
                                            exact dk_retz hR hF d_Reader_isSign_105
                                          · refine dk_if hF (fun hc61 hF => ?_) (fun hc61 hF => ?_)
                                            · refine dk_tsIn (v := 61) (tgt := 104) X d_Reader_isSign_1 (by rw [hc61]; decide) (by decide) (by decide) rfl (by decide) ?_
                                              refine dk_iconst (v := 1) X (by decide) d_Reader_isSign_104 ?_
                                              exact dk_retz hR hF d_Reader_isSign_105
                                            · refine dk_tsOut (tgt := 106) X d_Reader_isSign_1 (by have e40 := lv_neT hc40 (a := 40) (by decide); have e41 := lv_neT hc41 (a := 41) (by decide); have e42 := lv_neT hc42 (a := 42) (by decide); have e43 := lv_neT hc43 (a := 43) (by decide); have e44 := lv_neT hc44 (a := 44) (by decide); have e45 := lv_neT hc45 (a := 45) (by decide); have e46 := lv_neT hc46 (a := 46) (by decide); have e47 := lv_neT hc47 (a := 47) (by decide); have e48 := lv_neT hc48 (a := 48) (by decide); have e49 := lv_neT hc49 (a := 49) (by decide); have e50 := lv_neT hc50 (a := 50) (by decide); have e51 := lv_neT hc51 (a := 51) (by decide); have e52 := lv_neT hc52 (a := 52) (by decide); have e53 := lv_neT hc53 (a := 53) (by decide); have e54 := lv_neT hc54 (a := 54) (by decide); have e55 := lv_neT hc55 (a := 55) (by decide); have e56 := lv_neT hc56 (a := 56) (by decide); have e57 := lv_neT hc57 (a := 57) (by decide); have e58 := lv_neT hc58 (a := 58) (by decide); have e59 := lv_neT hc59 (a := 59) (by decide); have e60 := lv_neT hc60 (a := 60) (by decide); have e61 := lv_neT hc61 (a := 61) (by decide); omega) (by decide) ?_
                                              refine dk_iconst (v := 0) X (by decide) d_Reader_isSign_106 ?_
                                              exact dk_retz hR hF d_Reader_isSign_107
def F_Reader_isSign (n T : Nat) (x0 : Int32) (S : dk_S) : Option (Int32 × dk_S) := B_Reader_isSign_0 n T x0 S
theorem c_Reader_isSign (l : Launch) (g : dk_G) (ad : Nat → Nat) (T n : Nat) (x0 : Int32)  (S : dk_S) : dk_Mi l g y_Reader_isSign b_Reader_isSign 1 rm_Reader_isSign (some .boolean) [.int x0] (wC g ad T) S (F_Reader_isSign n T x0 S) := dk_enteri (by decide) (Nat.le_of_ble_eq_true rfl) (fun p e s m args below meth c A Q res hF X hR => (kb_Reader_isSign_0 (n := n) X hR  hF))
abbrev b_Reader_sees : ByteArray := prog_5_method_13_code
def y_Reader_sees : MethodName := ⟨R_Reader, "sees", "(I)Z"⟩
theorem d_Reader_sees_0 : decode b_Reader_sees 0 = .ok (.aload_n 0, 1) := by decide +kernel
theorem d_Reader_sees_1 : decode b_Reader_sees 1 = .ok (.getfield 23, 3) := by decide +kernel
theorem d_Reader_sees_4 : decode b_Reader_sees 4 = .ok (.ifCond .ge 15, 3) := by decide +kernel
theorem d_Reader_sees_7 : decode b_Reader_sees 7 = .ok (.aload_n 0, 1) := by decide +kernel
theorem d_Reader_sees_8 : decode b_Reader_sees 8 = .ok (.getfield 82, 3) := by decide +kernel
theorem d_Reader_sees_11 : decode b_Reader_sees 11 = .ok (.iload_n 1, 1) := by decide +kernel
theorem d_Reader_sees_12 : decode b_Reader_sees 12 = .ok (.if_icmp .ne 7, 3) := by decide +kernel
theorem d_Reader_sees_15 : decode b_Reader_sees 15 = .ok (.iconst 1, 1) := by decide +kernel
theorem d_Reader_sees_16 : decode b_Reader_sees 16 = .ok (.goto 4, 3) := by decide +kernel
theorem d_Reader_sees_19 : decode b_Reader_sees 19 = .ok (.iconst 0, 1) := by decide +kernel
theorem d_Reader_sees_20 : decode b_Reader_sees 20 = .ok (.ireturn, 1) := by decide +kernel
theorem v_Reader_sees : dk_Yv y_Reader_sees b_Reader_sees 2 (some .boolean) 1 := ⟨dk_in (List.mem_of_getElem? (i := 569) (by decide +kernel)) rfl, dk_in (List.mem_of_getElem? (i := 5) (by decide +kernel)) rfl, dk_in (List.mem_of_getElem? (i := 69) (by decide +kernel)) rfl, dk_in (List.mem_of_getElem? (i := 570) (by decide +kernel)) rfl, by decide +kernel, by decide +kernel, by decide +kernel⟩
abbrev rm_Reader_sees : Room := { frames := 0, cells := 0, slots := 0, locals := 0 }
theorem f_Reader_23 : Cond.fieldLink R_Reader 23 (T_Reader 2).1 (T_Reader 2).2.1 (T_Reader 2).2.2.1 ∈ dk_tb := dk_in (List.mem_of_getElem? (i := 177) (by decide +kernel)) rfl
theorem f_Reader_82 : Cond.fieldLink R_Reader 82 (T_Reader 6).1 (T_Reader 6).2.1 (T_Reader 6).2.2.1 ∈ dk_tb := dk_in (List.mem_of_getElem? (i := 182) (by decide +kernel)) rfl
def B_Reader_sees_0 (n T : Nat)  (x1 : Int32) (S : dk_S) : Option (Int32 × dk_S) :=
  if 0 ≤ (S 106 0) then (dk_b (0 : Int32) (some ((0 : Int32), S))) else (if ¬ (S 109 0) = x1 then (dk_b (0 : Int32) (some ((0 : Int32), S))) else (dk_b (1 : Int32) (some ((1 : Int32), S))))
set_option maxRecDepth 20000 in
theorem kb_Reader_sees_0 {p : Program} {l : Launch} {e : Env} {s : State} {m : MethodId} {args : Array Value} {below : List Frame} {meth : Method} {c : Code} {g : dk_G} {A : Nat → Prop} {Q : State → Prop} {ad : Nat → Nat} {T : Nat} {n : Nat} {res : (Int32 × dk_S)} (X : dk_X p s m args meth c b_Reader_sees 2 R_Reader (some .boolean) g A) (hR : dk_Ri p l e rm_Reader_sees s m args below meth c g A Q 2 b_Reader_sees (some .boolean) (wC g ad T) res)  {x1 : Int32} {S : dk_S}  (hF : B_Reader_sees_0 n T  x1 S = some res) : dk_J p l e rm_Reader_sees s m args below meth c g A Q 2 0 0 0 [(0, .ref (ad 12)), (1, .int x1)] [] (wC g ad T S) := by
  unfold B_Reader_sees_0 at hF
  refine dk_aload_n (k := 0) (i := 0) X 0 rfl rfl d_Reader_sees_0 ?_
  refine dk_get X q_Reader 12 2 (by decide) (oC_Reader g ad T S) rfl f_Reader_23 d_Reader_sees_1 ?_
  refine dk_if_ge (tgt := 19) X (by decide) d_Reader_sees_4 hF (fun hF => ?_) (fun hF => ?_)
  · refine dk_iconst (v := 0) X (by decide) d_Reader_sees_19 ?_
    exact dk_retz hR hF d_Reader_sees_20
  · refine dk_aload_n (k := 0) (i := 0) X 0 rfl rfl d_Reader_sees_7 ?_
    refine dk_get X q_Reader 12 6 (by decide) (oC_Reader g ad T S) rfl f_Reader_82 d_Reader_sees_8 ?_
    refine dk_iload_n (k := 1) (i := 1) X 1 rfl rfl d_Reader_sees_11 ?_
    refine dk_icmp_ne (tgt := 19) X (by decide) d_Reader_sees_12 hF (fun hF => ?_) (fun hF => ?_)
    · refine dk_iconst (v := 0) X (by decide) d_Reader_sees_19 ?_
      exact dk_retz hR hF d_Reader_sees_20
    · refine dk_iconst (v := 1) X (by decide) d_Reader_sees_15 ?_
      refine dk_goto (tgt := 20) X (by decide) d_Reader_sees_16 ?_
      exact dk_retz hR hF d_Reader_sees_20
def F_Reader_sees (n T : Nat) (x1 : Int32) (S : dk_S) : Option (Int32 × dk_S) := B_Reader_sees_0 n T x1 S
theorem c_Reader_sees (l : Launch) (g : dk_G) (ad : Nat → Nat) (T n : Nat) (x1 : Int32)  (S : dk_S) : dk_Mi l g y_Reader_sees b_Reader_sees 2 rm_Reader_sees (some .boolean) [.ref (ad 12), .int x1] (wC g ad T) S (F_Reader_sees n T x1 S) := dk_enteri (by decide) (Nat.le_of_ble_eq_true rfl) (fun p e s m args below meth c A Q res hF X hR => (kb_Reader_sees_0 (n := n) X hR  hF))
abbrev b_Reader_fail : ByteArray := prog_5_method_15_code
def y_Reader_fail : MethodName := ⟨R_Reader, "fail", "()V"⟩
theorem d_Reader_fail_0 : decode b_Reader_fail 0 = .ok (.aload_n 0, 1) := by decide +kernel
theorem d_Reader_fail_1 : decode b_Reader_fail 1 = .ok (.getfield 23, 3) := by decide +kernel
theorem d_Reader_fail_4 : decode b_Reader_fail 4 = .ok (.ifCond .ge 11, 3) := by decide +kernel
theorem d_Reader_fail_7 : decode b_Reader_fail 7 = .ok (.aload_n 0, 1) := by decide +kernel
theorem d_Reader_fail_8 : decode b_Reader_fail 8 = .ok (.aload_n 0, 1) := by decide +kernel
theorem d_Reader_fail_9 : decode b_Reader_fail 9 = .ok (.getfield 97, 3) := by decide +kernel
theorem d_Reader_fail_12 : decode b_Reader_fail 12 = .ok (.putfield 23, 3) := by decide +kernel
theorem d_Reader_fail_15 : decode b_Reader_fail 15 = .ok (.return_, 1) := by decide +kernel
theorem v_Reader_fail : dk_Yv y_Reader_fail b_Reader_fail 1 (none) 0 := ⟨dk_in (List.mem_of_getElem? (i := 573) (by decide +kernel)) rfl, dk_in (List.mem_of_getElem? (i := 6) (by decide +kernel)) rfl, dk_in (List.mem_of_getElem? (i := 69) (by decide +kernel)) rfl, dk_in (List.mem_of_getElem? (i := 574) (by decide +kernel)) rfl, by decide +kernel, by decide +kernel, by decide +kernel⟩
abbrev rm_Reader_fail : Room := { frames := 0, cells := 0, slots := 0, locals := 0 }
theorem f_Reader_97 : Cond.fieldLink R_Reader 97 (T_Reader 7).1 (T_Reader 7).2.1 (T_Reader 7).2.2.1 ∈ dk_tb := dk_in (List.mem_of_getElem? (i := 183) (by decide +kernel)) rfl
def B_Reader_fail_0 (n T : Nat)   (S : dk_S) : Option dk_S :=
  if 0 ≤ (S 106 0) then (some S) else (dk_p S 106 (S 110 0) fun S1 => some S1)
set_option maxRecDepth 20000 in
theorem kb_Reader_fail_0 {p : Program} {l : Launch} {e : Env} {s : State} {m : MethodId} {args : Array Value} {below : List Frame} {meth : Method} {c : Code} {g : dk_G} {A : Nat → Prop} {Q : State → Prop} {ad : Nat → Nat} {T : Nat} {n : Nat} {res : dk_S} (X : dk_X p s m args meth c b_Reader_fail 1 R_Reader (none) g A) (hR : dk_Rv p l e rm_Reader_fail s m args below meth c g A Q 1 b_Reader_fail (none) (wC g ad T) res)   {S : dk_S}  (hF : B_Reader_fail_0 n T   S = some res) : dk_J p l e rm_Reader_fail s m args below meth c g A Q 1 0 0 0 [(0, .ref (ad 12))] [] (wC g ad T S) := by
  unfold B_Reader_fail_0 at hF
  refine dk_aload_n (k := 0) (i := 0) X 0 rfl rfl d_Reader_fail_0 ?_
  refine dk_get X q_Reader 12 2 (by decide) (oC_Reader g ad T S) rfl f_Reader_23 d_Reader_fail_1 ?_
  refine dk_if_ge (tgt := 15) X (by decide) d_Reader_fail_4 hF (fun hF => ?_) (fun hF => ?_)
  · exact dk_retv hR hF d_Reader_fail_15
  · refine dk_aload_n (k := 0) (i := 0) X 0 rfl rfl d_Reader_fail_7 ?_
    refine dk_aload_n (k := 0) (i := 0) X 0 rfl rfl d_Reader_fail_8 ?_
    refine dk_get X q_Reader 12 7 (by decide) (oC_Reader g ad T S) rfl f_Reader_97 d_Reader_fail_9 ?_
    refine dk_puti X q_Reader 12 2 (by decide) (oC_Reader g ad T S) f_Reader_23 rfl rfl (Nat.le_of_ble_eq_true rfl) (sC_Reader_fault g ad T S _) d_Reader_fail_12 hF (fun S1 hF => ?_)
    exact dk_retv hR hF d_Reader_fail_15
def F_Reader_fail (n T : Nat)  (S : dk_S) : Option dk_S := B_Reader_fail_0 n T  S
theorem c_Reader_fail (l : Launch) (g : dk_G) (ad : Nat → Nat) (T n : Nat)   (S : dk_S) : dk_Mv l g y_Reader_fail b_Reader_fail 1 rm_Reader_fail (none) [.ref (ad 12)] (wC g ad T) S (F_Reader_fail n T  S) := dk_enterv (by decide) rfl (Nat.le_of_ble_eq_true rfl) (fun p e s m args below meth c A Q res hF X hR => (kb_Reader_fail_0 (n := n) X hR  hF))
abbrev b_Reader_put : ByteArray := prog_5_method_16_code
def y_Reader_put : MethodName := ⟨R_Reader, "put", "(I)V"⟩
theorem d_Reader_put_0 : decode b_Reader_put 0 = .ok (.aload_n 0, 1) := by decide +kernel
theorem d_Reader_put_1 : decode b_Reader_put 1 = .ok (.getfield 23, 3) := by decide +kernel
theorem d_Reader_put_4 : decode b_Reader_put 4 = .ok (.ifCond .ge 33, 3) := by decide +kernel
theorem d_Reader_put_7 : decode b_Reader_put 7 = .ok (.aload_n 0, 1) := by decide +kernel
theorem d_Reader_put_8 : decode b_Reader_put 8 = .ok (.getfield 26, 3) := by decide +kernel
theorem d_Reader_put_11 : decode b_Reader_put 11 = .ok (.sipush 160, 3) := by decide +kernel
theorem d_Reader_put_14 : decode b_Reader_put 14 = .ok (.if_icmp .ge 23, 3) := by decide +kernel
theorem d_Reader_put_17 : decode b_Reader_put 17 = .ok (.aload_n 0, 1) := by decide +kernel
theorem d_Reader_put_18 : decode b_Reader_put 18 = .ok (.getfield 15, 3) := by decide +kernel
theorem d_Reader_put_21 : decode b_Reader_put 21 = .ok (.aload_n 0, 1) := by decide +kernel
theorem d_Reader_put_22 : decode b_Reader_put 22 = .ok (.getfield 26, 3) := by decide +kernel
theorem d_Reader_put_25 : decode b_Reader_put 25 = .ok (.iload_n 1, 1) := by decide +kernel
theorem d_Reader_put_26 : decode b_Reader_put 26 = .ok (.iastore, 1) := by decide +kernel
theorem d_Reader_put_27 : decode b_Reader_put 27 = .ok (.aload_n 0, 1) := by decide +kernel
theorem d_Reader_put_28 : decode b_Reader_put 28 = .ok (.dup, 1) := by decide +kernel
theorem d_Reader_put_29 : decode b_Reader_put 29 = .ok (.getfield 26, 3) := by decide +kernel
theorem d_Reader_put_32 : decode b_Reader_put 32 = .ok (.iconst 1, 1) := by decide +kernel
theorem d_Reader_put_33 : decode b_Reader_put 33 = .ok (.iadd, 1) := by decide +kernel
theorem d_Reader_put_34 : decode b_Reader_put 34 = .ok (.putfield 26, 3) := by decide +kernel
theorem d_Reader_put_37 : decode b_Reader_put 37 = .ok (.return_, 1) := by decide +kernel
theorem v_Reader_put : dk_Yv y_Reader_put b_Reader_put 2 (none) 1 := ⟨dk_in (List.mem_of_getElem? (i := 605) (by decide +kernel)) rfl, dk_in (List.mem_of_getElem? (i := 14) (by decide +kernel)) rfl, dk_in (List.mem_of_getElem? (i := 69) (by decide +kernel)) rfl, dk_in (List.mem_of_getElem? (i := 606) (by decide +kernel)) rfl, by decide +kernel, by decide +kernel, by decide +kernel⟩
abbrev rm_Reader_put : Room := { frames := 0, cells := 0, slots := 0, locals := 0 }
theorem f_Reader_15 : Cond.fieldLink R_Reader 15 (T_Reader 3).1 (T_Reader 3).2.1 (T_Reader 3).2.2.1 ∈ dk_tb := dk_in (List.mem_of_getElem? (i := 179) (by decide +kernel)) rfl
theorem f_Reader_26 : Cond.fieldLink R_Reader 26 (T_Reader 4).1 (T_Reader 4).2.1 (T_Reader 4).2.2.1 ∈ dk_tb := dk_in (List.mem_of_getElem? (i := 180) (by decide +kernel)) rfl
def B_Reader_put_0 (n T : Nat)  (x1 : Int32) (S : dk_S) : Option dk_S :=
  if 0 ≤ (S 106 0) then (some S) else (if (160 : Int32) ≤ (S 107 0) then (some S) else (dk_w S 14 160 (S 107 0) x1 fun S1 => dk_p S1 107 ((S1 107 0) + (1 : Int32)) fun S2 => some S2))
set_option maxRecDepth 20000 in
theorem kb_Reader_put_0 {p : Program} {l : Launch} {e : Env} {s : State} {m : MethodId} {args : Array Value} {below : List Frame} {meth : Method} {c : Code} {g : dk_G} {A : Nat → Prop} {Q : State → Prop} {ad : Nat → Nat} {T : Nat} {n : Nat} {res : dk_S} (X : dk_X p s m args meth c b_Reader_put 2 R_Reader (none) g A) (hR : dk_Rv p l e rm_Reader_put s m args below meth c g A Q 2 b_Reader_put (none) (wC g ad T) res)  {x1 : Int32} {S : dk_S}  (hF : B_Reader_put_0 n T  x1 S = some res) : dk_J p l e rm_Reader_put s m args below meth c g A Q 2 0 0 0 [(0, .ref (ad 12)), (1, .int x1)] [] (wC g ad T S) := by
  unfold B_Reader_put_0 at hF
  refine dk_aload_n (k := 0) (i := 0) X 0 rfl rfl d_Reader_put_0 ?_
  refine dk_get X q_Reader 12 2 (by decide) (oC_Reader g ad T S) rfl f_Reader_23 d_Reader_put_1 ?_
  refine dk_if_ge (tgt := 37) X (by decide) d_Reader_put_4 hF (fun hF => ?_) (fun hF => ?_)
  · exact dk_retv hR hF d_Reader_put_37
  · refine dk_aload_n (k := 0) (i := 0) X 0 rfl rfl d_Reader_put_7 ?_
    refine dk_get X q_Reader 12 4 (by decide) (oC_Reader g ad T S) rfl f_Reader_26 d_Reader_put_8 ?_
    refine dk_sipush (v := 160) X (by decide) d_Reader_put_11 ?_
    refine dk_icmp_ge (tgt := 37) X (by decide) d_Reader_put_14 hF (fun hF => ?_) (fun hF => ?_)
    · exact dk_retv hR hF d_Reader_put_37
    · refine dk_aload_n (k := 0) (i := 0) X 0 rfl rfl d_Reader_put_17 ?_
      refine dk_get X q_Reader 12 3 (by decide) (oC_Reader g ad T S) rfl f_Reader_15 d_Reader_put_18 ?_
      refine dk_aload_n (k := 0) (i := 0) X 0 rfl rfl d_Reader_put_21 ?_
      refine dk_get X q_Reader 12 4 (by decide) (oC_Reader g ad T S) rfl f_Reader_26 d_Reader_put_22 ?_
      refine dk_iload_n (k := 1) (i := 1) X 1 rfl rfl d_Reader_put_25 ?_
      refine dk_iast X 14 (aC_14 g ad T S) (sC_14 g ad T S _ _) d_Reader_put_26 hF (fun S1 hF => ?_)
      refine dk_aload_n (k := 0) (i := 0) X 0 rfl rfl d_Reader_put_27 ?_
      refine dk_dup X rfl d_Reader_put_28 ?_
      refine dk_get X q_Reader 12 4 (by decide) (oC_Reader g ad T S1) rfl f_Reader_26 d_Reader_put_29 ?_
      refine dk_iconst (v := 1) X (by decide) d_Reader_put_32 ?_
      refine dk_iadd X d_Reader_put_33 ?_
      refine dk_puti X q_Reader 12 4 (by decide) (oC_Reader g ad T S1) f_Reader_26 rfl rfl (Nat.le_of_ble_eq_true rfl) (sC_Reader_codeSize g ad T S1 _) d_Reader_put_34 hF (fun S2 hF => ?_)
      exact dk_retv hR hF d_Reader_put_37
def F_Reader_put (n T : Nat) (x1 : Int32) (S : dk_S) : Option dk_S := B_Reader_put_0 n T x1 S
theorem c_Reader_put (l : Launch) (g : dk_G) (ad : Nat → Nat) (T n : Nat) (x1 : Int32)  (S : dk_S) : dk_Mv l g y_Reader_put b_Reader_put 2 rm_Reader_put (none) [.ref (ad 12), .int x1] (wC g ad T) S (F_Reader_put n T x1 S) := dk_enterv (by decide) rfl (Nat.le_of_ble_eq_true rfl) (fun p e s m args below meth c A Q res hF X hR => (kb_Reader_put_0 (n := n) X hR  hF))
abbrev b_Reader_scanNumber : ByteArray := prog_5_method_19_code
def y_Reader_scanNumber : MethodName := ⟨R_Reader, "scanNumber", "()V"⟩
theorem d_Reader_scanNumber_0 : decode b_Reader_scanNumber 0 = .ok (.aload_n 0, 1) := by decide +kernel
theorem d_Reader_scanNumber_1 : decode b_Reader_scanNumber 1 = .ok (.iconst 0, 1) := by decide +kernel
theorem d_Reader_scanNumber_2 : decode b_Reader_scanNumber 2 = .ok (.putfield 91, 3) := by decide +kernel
theorem d_Reader_scanNumber_5 : decode b_Reader_scanNumber 5 = .ok (.aload_n 0, 1) := by decide +kernel
theorem d_Reader_scanNumber_6 : decode b_Reader_scanNumber 6 = .ok (.getfield 29, 3) := by decide +kernel
theorem d_Reader_scanNumber_9 : decode b_Reader_scanNumber 9 = .ok (.aload_n 0, 1) := by decide +kernel
theorem d_Reader_scanNumber_10 : decode b_Reader_scanNumber 10 = .ok (.getfield 19, 3) := by decide +kernel
theorem d_Reader_scanNumber_13 : decode b_Reader_scanNumber 13 = .ok (.if_icmp .ge 55, 3) := by decide +kernel
theorem d_Reader_scanNumber_16 : decode b_Reader_scanNumber 16 = .ok (.aload_n 0, 1) := by decide +kernel
theorem d_Reader_scanNumber_17 : decode b_Reader_scanNumber 17 = .ok (.getfield 9, 3) := by decide +kernel
theorem d_Reader_scanNumber_20 : decode b_Reader_scanNumber 20 = .ok (.aload_n 0, 1) := by decide +kernel
theorem d_Reader_scanNumber_21 : decode b_Reader_scanNumber 21 = .ok (.getfield 29, 3) := by decide +kernel
theorem d_Reader_scanNumber_24 : decode b_Reader_scanNumber 24 = .ok (.baload, 1) := by decide +kernel
theorem d_Reader_scanNumber_25 : decode b_Reader_scanNumber 25 = .ok (.invokestatic 106, 3) := by decide +kernel
theorem d_Reader_scanNumber_28 : decode b_Reader_scanNumber 28 = .ok (.ifCond .eq 40, 3) := by decide +kernel
theorem d_Reader_scanNumber_31 : decode b_Reader_scanNumber 31 = .ok (.aload_n 0, 1) := by decide +kernel
theorem d_Reader_scanNumber_32 : decode b_Reader_scanNumber 32 = .ok (.aload_n 0, 1) := by decide +kernel
theorem d_Reader_scanNumber_33 : decode b_Reader_scanNumber 33 = .ok (.getfield 91, 3) := by decide +kernel
theorem d_Reader_scanNumber_36 : decode b_Reader_scanNumber 36 = .ok (.bipush 10, 2) := by decide +kernel
theorem d_Reader_scanNumber_38 : decode b_Reader_scanNumber 38 = .ok (.imul, 1) := by decide +kernel
theorem d_Reader_scanNumber_39 : decode b_Reader_scanNumber 39 = .ok (.aload_n 0, 1) := by decide +kernel
theorem d_Reader_scanNumber_40 : decode b_Reader_scanNumber 40 = .ok (.getfield 9, 3) := by decide +kernel
theorem d_Reader_scanNumber_43 : decode b_Reader_scanNumber 43 = .ok (.aload_n 0, 1) := by decide +kernel
theorem d_Reader_scanNumber_44 : decode b_Reader_scanNumber 44 = .ok (.getfield 29, 3) := by decide +kernel
theorem d_Reader_scanNumber_47 : decode b_Reader_scanNumber 47 = .ok (.baload, 1) := by decide +kernel
theorem d_Reader_scanNumber_48 : decode b_Reader_scanNumber 48 = .ok (.bipush 48, 2) := by decide +kernel
theorem d_Reader_scanNumber_50 : decode b_Reader_scanNumber 50 = .ok (.isub, 1) := by decide +kernel
theorem d_Reader_scanNumber_51 : decode b_Reader_scanNumber 51 = .ok (.iadd, 1) := by decide +kernel
theorem d_Reader_scanNumber_52 : decode b_Reader_scanNumber 52 = .ok (.putfield 91, 3) := by decide +kernel
theorem d_Reader_scanNumber_55 : decode b_Reader_scanNumber 55 = .ok (.aload_n 0, 1) := by decide +kernel
theorem d_Reader_scanNumber_56 : decode b_Reader_scanNumber 56 = .ok (.dup, 1) := by decide +kernel
theorem d_Reader_scanNumber_57 : decode b_Reader_scanNumber 57 = .ok (.getfield 29, 3) := by decide +kernel
theorem d_Reader_scanNumber_60 : decode b_Reader_scanNumber 60 = .ok (.iconst 1, 1) := by decide +kernel
theorem d_Reader_scanNumber_61 : decode b_Reader_scanNumber 61 = .ok (.iadd, 1) := by decide +kernel
theorem d_Reader_scanNumber_62 : decode b_Reader_scanNumber 62 = .ok (.putfield 29, 3) := by decide +kernel
theorem d_Reader_scanNumber_65 : decode b_Reader_scanNumber 65 = .ok (.goto (-60), 3) := by decide +kernel
theorem d_Reader_scanNumber_68 : decode b_Reader_scanNumber 68 = .ok (.aload_n 0, 1) := by decide +kernel
theorem d_Reader_scanNumber_69 : decode b_Reader_scanNumber 69 = .ok (.aload_n 0, 1) := by decide +kernel
theorem d_Reader_scanNumber_70 : decode b_Reader_scanNumber 70 = .ok (.getfield 29, 3) := by decide +kernel
theorem d_Reader_scanNumber_73 : decode b_Reader_scanNumber 73 = .ok (.aload_n 0, 1) := by decide +kernel
theorem d_Reader_scanNumber_74 : decode b_Reader_scanNumber 74 = .ok (.getfield 97, 3) := by decide +kernel
theorem d_Reader_scanNumber_77 : decode b_Reader_scanNumber 77 = .ok (.isub, 1) := by decide +kernel
theorem d_Reader_scanNumber_78 : decode b_Reader_scanNumber 78 = .ok (.iconst 4, 1) := by decide +kernel
theorem d_Reader_scanNumber_79 : decode b_Reader_scanNumber 79 = .ok (.if_icmp .le 7, 3) := by decide +kernel
theorem d_Reader_scanNumber_82 : decode b_Reader_scanNumber 82 = .ok (.iconst 1, 1) := by decide +kernel
theorem d_Reader_scanNumber_83 : decode b_Reader_scanNumber 83 = .ok (.goto 4, 3) := by decide +kernel
theorem d_Reader_scanNumber_86 : decode b_Reader_scanNumber 86 = .ok (.iconst 2, 1) := by decide +kernel
theorem d_Reader_scanNumber_87 : decode b_Reader_scanNumber 87 = .ok (.putfield 82, 3) := by decide +kernel
theorem d_Reader_scanNumber_90 : decode b_Reader_scanNumber 90 = .ok (.return_, 1) := by decide +kernel
theorem v_Reader_scanNumber : dk_Yv y_Reader_scanNumber b_Reader_scanNumber 1 (none) 0 := ⟨dk_in (List.mem_of_getElem? (i := 558) (by decide +kernel)) rfl, dk_in (List.mem_of_getElem? (i := 3) (by decide +kernel)) rfl, dk_in (List.mem_of_getElem? (i := 69) (by decide +kernel)) rfl, dk_in (List.mem_of_getElem? (i := 559) (by decide +kernel)) rfl, by decide +kernel, by decide +kernel, by decide +kernel⟩
abbrev rm_Reader_scanNumber : Room := { frames := 1, cells := 0, slots := 0, locals := 20 }
theorem f_Reader_29 : Cond.fieldLink R_Reader 29 (T_Reader 9).1 (T_Reader 9).2.1 (T_Reader 9).2.2.1 ∈ dk_tb := dk_in (List.mem_of_getElem? (i := 185) (by decide +kernel)) rfl
theorem f_Reader_91 : Cond.fieldLink R_Reader 91 (T_Reader 8).1 (T_Reader 8).2.1 (T_Reader 8).2.2.1 ∈ dk_tb := dk_in (List.mem_of_getElem? (i := 184) (by decide +kernel)) rfl
theorem m_Reader_106 : Cond.methodLink R_Reader 106 y_Reader_isDigit ∈ dk_tb := dk_in (List.mem_of_getElem? (i := 553) (by decide +kernel)) rfl
def B_Reader_scanNumber_87 (n T : Nat)  (u1 : Int32) (S : dk_S) : Option dk_S :=
  dk_p S 109 u1 fun S1 => some S1
set_option maxRecDepth 20000 in
theorem kb_Reader_scanNumber_87 {p : Program} {l : Launch} {e : Env} {s : State} {m : MethodId} {args : Array Value} {below : List Frame} {meth : Method} {c : Code} {g : dk_G} {A : Nat → Prop} {Q : State → Prop} {ad : Nat → Nat} {T : Nat} {n : Nat} {res : dk_S} (X : dk_X p s m args meth c b_Reader_scanNumber 1 R_Reader (none) g A) (hR : dk_Rv p l e rm_Reader_scanNumber s m args below meth c g A Q 1 b_Reader_scanNumber (none) (wC g ad T) res)  {u1 : Int32} {S : dk_S}  (hF : B_Reader_scanNumber_87 n T  u1 S = some res) : dk_J p l e rm_Reader_scanNumber s m args below meth c g A Q 1 0 0 87 [] [.int u1, .ref (ad 12)] (wC g ad T S) := by
  unfold B_Reader_scanNumber_87 at hF
  refine dk_puti X q_Reader 12 6 (by decide) (oC_Reader g ad T S) f_Reader_82 rfl rfl (Nat.le_of_ble_eq_true rfl) (sC_Reader_token g ad T S _) d_Reader_scanNumber_87 hF (fun S1 hF => ?_)
  exact dk_retv hR hF d_Reader_scanNumber_90
def B_Reader_scanNumber_68 (n T : Nat)   (S : dk_S) : Option dk_S :=
  if ((S 112 0) - (S 110 0)) ≤ (4 : Int32) then (B_Reader_scanNumber_87 n T  (2 : Int32) S) else (B_Reader_scanNumber_87 n T  (1 : Int32) S)
set_option maxRecDepth 20000 in
theorem kb_Reader_scanNumber_68 {p : Program} {l : Launch} {e : Env} {s : State} {m : MethodId} {args : Array Value} {below : List Frame} {meth : Method} {c : Code} {g : dk_G} {A : Nat → Prop} {Q : State → Prop} {ad : Nat → Nat} {T : Nat} {n : Nat} {res : dk_S} (X : dk_X p s m args meth c b_Reader_scanNumber 1 R_Reader (none) g A) (hR : dk_Rv p l e rm_Reader_scanNumber s m args below meth c g A Q 1 b_Reader_scanNumber (none) (wC g ad T) res)   {S : dk_S}  (hF : B_Reader_scanNumber_68 n T   S = some res) : dk_J p l e rm_Reader_scanNumber s m args below meth c g A Q 1 0 0 68 [(0, .ref (ad 12))] [] (wC g ad T S) := by
  unfold B_Reader_scanNumber_68 at hF
  refine dk_aload_n (k := 0) (i := 0) X 0 rfl rfl d_Reader_scanNumber_68 ?_
  refine dk_aload_n (k := 0) (i := 0) X 0 rfl rfl d_Reader_scanNumber_69 ?_
  refine dk_get X q_Reader 12 9 (by decide) (oC_Reader g ad T S) rfl f_Reader_29 d_Reader_scanNumber_70 ?_
  refine dk_aload_n (k := 0) (i := 0) X 0 rfl rfl d_Reader_scanNumber_73 ?_
  refine dk_get X q_Reader 12 7 (by decide) (oC_Reader g ad T S) rfl f_Reader_97 d_Reader_scanNumber_74 ?_
  refine dk_isub X d_Reader_scanNumber_77 ?_
  refine dk_iconst (v := 4) X (by decide) d_Reader_scanNumber_78 ?_
  refine dk_icmp_le (tgt := 86) X (by decide) d_Reader_scanNumber_79 hF (fun hF => ?_) (fun hF => ?_)
  · refine dk_iconst (v := 2) X (by decide) d_Reader_scanNumber_86 ?_
    exact dk_sub [] rfl (kb_Reader_scanNumber_87 (n := n) X hR   hF)
  · refine dk_iconst (v := 1) X (by decide) d_Reader_scanNumber_82 ?_
    refine dk_goto (tgt := 87) X (by decide) d_Reader_scanNumber_83 ?_
    exact dk_sub [] rfl (kb_Reader_scanNumber_87 (n := n) X hR   hF)
def B_Reader_scanNumber_5b (n T : Nat) (k5 : dk_S → Option dk_S)  (S : dk_S) : Option dk_S :=
  if (S 105 0) ≤ (S 112 0) then (B_Reader_scanNumber_68 n T  S) else (dk_r 160 (S 13) (S 112 0) fun v2 => dk_c (F_Reader_isDigit n T v2 S) fun r4 S3 => if r4 = 0 then (B_Reader_scanNumber_68 n T  S3) else (dk_r 160 (S3 13) (S3 112 0) fun v5 => dk_p S3 111 (((S3 111 0) * (10 : Int32)) + (v5 - (48 : Int32))) fun S6 => dk_p S6 112 ((S6 112 0) + (1 : Int32)) fun S7 => k5 S7))
set_option maxRecDepth 20000 in
theorem kb_Reader_scanNumber_5b {p : Program} {l : Launch} {e : Env} {s : State} {m : MethodId} {args : Array Value} {below : List Frame} {meth : Method} {c : Code} {g : dk_G} {A : Nat → Prop} {Q : State → Prop} {ad : Nat → Nat} {T : Nat} {n : Nat} {res : dk_S} (X : dk_X p s m args meth c b_Reader_scanNumber 1 R_Reader (none) g A) (hR : dk_Rv p l e rm_Reader_scanNumber s m args below meth c g A Q 1 b_Reader_scanNumber (none) (wC g ad T) res) {k5 : dk_S → Option dk_S} (hk5 : ∀   (S : dk_S), k5  S = some res → dk_J p l e rm_Reader_scanNumber s m args below meth c g A Q 1 0 0 5 [(0, .ref (ad 12))] [] (wC g ad T S))  {S : dk_S}  (hF : B_Reader_scanNumber_5b n T k5  S = some res) : dk_J p l e rm_Reader_scanNumber s m args below meth c g A Q 1 0 0 5 [(0, .ref (ad 12))] [] (wC g ad T S) := by
  unfold B_Reader_scanNumber_5b at hF
  refine dk_aload_n (k := 0) (i := 0) X 0 rfl rfl d_Reader_scanNumber_5 ?_
  refine dk_get X q_Reader 12 9 (by decide) (oC_Reader g ad T S) rfl f_Reader_29 d_Reader_scanNumber_6 ?_
  refine dk_aload_n (k := 0) (i := 0) X 0 rfl rfl d_Reader_scanNumber_9 ?_
  refine dk_get X q_Reader 12 1 (by decide) (oC_Reader g ad T S) rfl f_Reader_19 d_Reader_scanNumber_10 ?_
  refine dk_icmp_ge (tgt := 68) X (by decide) d_Reader_scanNumber_13 hF (fun hF => ?_) (fun hF => ?_)
  · exact (kb_Reader_scanNumber_68 (n := n) X hR   hF)
  · refine dk_aload_n (k := 0) (i := 0) X 0 rfl rfl d_Reader_scanNumber_16 ?_
    refine dk_get X q_Reader 12 0 (by decide) (oC_Reader g ad T S) rfl f_Reader_9 d_Reader_scanNumber_17 ?_
    refine dk_aload_n (k := 0) (i := 0) X 0 rfl rfl d_Reader_scanNumber_20 ?_
    refine dk_get X q_Reader 12 9 (by decide) (oC_Reader g ad T S) rfl f_Reader_29 d_Reader_scanNumber_21 ?_
    refine dk_bald X 13 (aC_13 g ad T S) d_Reader_scanNumber_24 hF (fun v2 hF => ?_)
    refine dk_callSi X v_Reader_isDigit [.int v2] (c_Reader_isDigit l g ad T n v2 S) m_Reader_106 rfl rfl ⟨rfl, rfl, Nat.le_of_ble_eq_true rfl, Nat.le_of_ble_eq_true rfl, Nat.le_refl _, Nat.le_refl _⟩ (Nat.le_of_ble_eq_true rfl) d_Reader_scanNumber_25 hF (fun r4 S3 hF => ?_)
    refine dk_if_eq (tgt := 68) X (by decide) d_Reader_scanNumber_28 hF (fun hF => ?_) (fun hF => ?_)
    · exact (kb_Reader_scanNumber_68 (n := n) X hR   hF)
    · refine dk_aload_n (k := 0) (i := 0) X 0 rfl rfl d_Reader_scanNumber_31 ?_
      refine dk_aload_n (k := 0) (i := 0) X 0 rfl rfl d_Reader_scanNumber_32 ?_
      refine dk_get X q_Reader 12 8 (by decide) (oC_Reader g ad T S3) rfl f_Reader_91 d_Reader_scanNumber_33 ?_
      refine dk_bipush (v := 10) X (by decide) d_Reader_scanNumber_36 ?_
      refine dk_imul X d_Reader_scanNumber_38 ?_
      refine dk_aload_n (k := 0) (i := 0) X 0 rfl rfl d_Reader_scanNumber_39 ?_
      refine dk_get X q_Reader 12 0 (by decide) (oC_Reader g ad T S3) rfl f_Reader_9 d_Reader_scanNumber_40 ?_
      refine dk_aload_n (k := 0) (i := 0) X 0 rfl rfl d_Reader_scanNumber_43 ?_
      refine dk_get X q_Reader 12 9 (by decide) (oC_Reader g ad T S3) rfl f_Reader_29 d_Reader_scanNumber_44 ?_
      refine dk_bald X 13 (aC_13 g ad T S3) d_Reader_scanNumber_47 hF (fun v5 hF => ?_)
      refine dk_bipush (v := 48) X (by decide) d_Reader_scanNumber_48 ?_
      refine dk_isub X d_Reader_scanNumber_50 ?_
      refine dk_iadd X d_Reader_scanNumber_51 ?_
      refine dk_puti X q_Reader 12 8 (by decide) (oC_Reader g ad T S3) f_Reader_91 rfl rfl (Nat.le_of_ble_eq_true rfl) (sC_Reader_tokenCode g ad T S3 _) d_Reader_scanNumber_52 hF (fun S6 hF => ?_)
      refine dk_aload_n (k := 0) (i := 0) X 0 rfl rfl d_Reader_scanNumber_55 ?_
      refine dk_dup X rfl d_Reader_scanNumber_56 ?_
      refine dk_get X q_Reader 12 9 (by decide) (oC_Reader g ad T S6) rfl f_Reader_29 d_Reader_scanNumber_57 ?_
      refine dk_iconst (v := 1) X (by decide) d_Reader_scanNumber_60 ?_
      refine dk_iadd X d_Reader_scanNumber_61 ?_
      refine dk_puti X q_Reader 12 9 (by decide) (oC_Reader g ad T S6) f_Reader_29 rfl rfl (Nat.le_of_ble_eq_true rfl) (sC_Reader_next g ad T S6 _) d_Reader_scanNumber_62 hF (fun S7 hF => ?_)
      refine dk_goto (tgt := 5) X (by decide) d_Reader_scanNumber_65 ?_
      exact (hk5 S7 hF)
def B_Reader_scanNumber_5 (n T : Nat)  : Nat → dk_S → Option dk_S
  | 0 => fun  _ => none
  | q + 1 => fun  S => B_Reader_scanNumber_5b n T (fun  S => B_Reader_scanNumber_5 n T  q  S)  S
theorem kb_Reader_scanNumber_5 {p : Program} {l : Launch} {e : Env} {s : State} {m : MethodId} {args : Array Value} {below : List Frame} {meth : Method} {c : Code} {g : dk_G} {A : Nat → Prop} {Q : State → Prop} {ad : Nat → Nat} {T : Nat} {n : Nat} {res : dk_S} (X : dk_X p s m args meth c b_Reader_scanNumber 1 R_Reader (none) g A) (hR : dk_Rv p l e rm_Reader_scanNumber s m args below meth c g A Q 1 b_Reader_scanNumber (none) (wC g ad T) res)  : ∀ (q : Nat)   (S : dk_S), B_Reader_scanNumber_5 n T  q  S = some res → dk_J p l e rm_Reader_scanNumber s m args below meth c g A Q 1 0 0 5 [(0, .ref (ad 12))] [] (wC g ad T S) := by
  intro q
  induction q with
  | zero => intro   S hF; cases hF
  | succ q ih => intro   S hF; exact kb_Reader_scanNumber_5b (n := n) X hR ih  hF
def B_Reader_scanNumber_0 (n T : Nat)   (S : dk_S) : Option dk_S :=
  dk_p S 111 (0 : Int32) fun S8 => B_Reader_scanNumber_5 n T  n S8
set_option maxRecDepth 20000 in
theorem kb_Reader_scanNumber_0 {p : Program} {l : Launch} {e : Env} {s : State} {m : MethodId} {args : Array Value} {below : List Frame} {meth : Method} {c : Code} {g : dk_G} {A : Nat → Prop} {Q : State → Prop} {ad : Nat → Nat} {T : Nat} {n : Nat} {res : dk_S} (X : dk_X p s m args meth c b_Reader_scanNumber 1 R_Reader (none) g A) (hR : dk_Rv p l e rm_Reader_scanNumber s m args below meth c g A Q 1 b_Reader_scanNumber (none) (wC g ad T) res)   {S : dk_S}  (hF : B_Reader_scanNumber_0 n T   S = some res) : dk_J p l e rm_Reader_scanNumber s m args below meth c g A Q 1 0 0 0 [(0, .ref (ad 12))] [] (wC g ad T S) := by
  unfold B_Reader_scanNumber_0 at hF
  refine dk_aload_n (k := 0) (i := 0) X 0 rfl rfl d_Reader_scanNumber_0 ?_
  refine dk_iconst (v := 0) X (by decide) d_Reader_scanNumber_1 ?_
  refine dk_puti X q_Reader 12 8 (by decide) (oC_Reader g ad T S) f_Reader_91 rfl rfl (Nat.le_of_ble_eq_true rfl) (sC_Reader_tokenCode g ad T S _) d_Reader_scanNumber_2 hF (fun S8 hF => ?_)
  exact (kb_Reader_scanNumber_5 (n := n) X hR  n S8 hF)
def F_Reader_scanNumber (n T : Nat)  (S : dk_S) : Option dk_S := B_Reader_scanNumber_0 n T  S
theorem c_Reader_scanNumber (l : Launch) (g : dk_G) (ad : Nat → Nat) (T n : Nat)   (S : dk_S) : dk_Mv l g y_Reader_scanNumber b_Reader_scanNumber 1 rm_Reader_scanNumber (none) [.ref (ad 12)] (wC g ad T) S (F_Reader_scanNumber n T  S) := dk_enterv (by decide) rfl (Nat.le_of_ble_eq_true rfl) (fun p e s m args below meth c A Q res hF X hR => (kb_Reader_scanNumber_0 (n := n) X hR  hF))
abbrev b_Reader_numberOfWord : ByteArray := prog_5_method_20_code
def y_Reader_numberOfWord : MethodName := ⟨R_Reader, "numberOfWord", "()I"⟩
theorem d_Reader_numberOfWord_0 : decode b_Reader_numberOfWord 0 = .ok (.iconst 0, 1) := by decide +kernel
theorem d_Reader_numberOfWord_1 : decode b_Reader_numberOfWord 1 = .ok (.istore_n 1, 1) := by decide +kernel
theorem d_Reader_numberOfWord_2 : decode b_Reader_numberOfWord 2 = .ok (.iconst 0, 1) := by decide +kernel
theorem d_Reader_numberOfWord_3 : decode b_Reader_numberOfWord 3 = .ok (.istore_n 2, 1) := by decide +kernel
theorem d_Reader_numberOfWord_4 : decode b_Reader_numberOfWord 4 = .ok (.iconst 1, 1) := by decide +kernel
theorem d_Reader_numberOfWord_5 : decode b_Reader_numberOfWord 5 = .ok (.istore_n 3, 1) := by decide +kernel
theorem d_Reader_numberOfWord_6 : decode b_Reader_numberOfWord 6 = .ok (.iconst 0, 1) := by decide +kernel
theorem d_Reader_numberOfWord_7 : decode b_Reader_numberOfWord 7 = .ok (.istore 4, 2) := by decide +kernel
theorem d_Reader_numberOfWord_9 : decode b_Reader_numberOfWord 9 = .ok (.iload 4, 2) := by decide +kernel
theorem d_Reader_numberOfWord_11 : decode b_Reader_numberOfWord 11 = .ok (.ldc 119, 2) := by decide +kernel
theorem d_Reader_numberOfWord_13 : decode b_Reader_numberOfWord 13 = .ok (.invokevirtual 121, 3) := by decide +kernel
theorem d_Reader_numberOfWord_16 : decode b_Reader_numberOfWord 16 = .ok (.if_icmp .ge 92, 3) := by decide +kernel
theorem d_Reader_numberOfWord_19 : decode b_Reader_numberOfWord 19 = .ok (.ldc 119, 2) := by decide +kernel
theorem d_Reader_numberOfWord_21 : decode b_Reader_numberOfWord 21 = .ok (.iload 4, 2) := by decide +kernel
theorem d_Reader_numberOfWord_23 : decode b_Reader_numberOfWord 23 = .ok (.invokevirtual 126, 3) := by decide +kernel
theorem d_Reader_numberOfWord_26 : decode b_Reader_numberOfWord 26 = .ok (.istore 5, 2) := by decide +kernel
theorem d_Reader_numberOfWord_28 : decode b_Reader_numberOfWord 28 = .ok (.aload_n 0, 1) := by decide +kernel
theorem d_Reader_numberOfWord_29 : decode b_Reader_numberOfWord 29 = .ok (.getfield 97, 3) := by decide +kernel
theorem d_Reader_numberOfWord_32 : decode b_Reader_numberOfWord 32 = .ok (.iload_n 2, 1) := by decide +kernel
theorem d_Reader_numberOfWord_33 : decode b_Reader_numberOfWord 33 = .ok (.iadd, 1) := by decide +kernel
theorem d_Reader_numberOfWord_34 : decode b_Reader_numberOfWord 34 = .ok (.istore 6, 2) := by decide +kernel
theorem d_Reader_numberOfWord_36 : decode b_Reader_numberOfWord 36 = .ok (.iload 5, 2) := by decide +kernel
theorem d_Reader_numberOfWord_38 : decode b_Reader_numberOfWord 38 = .ok (.bipush 32, 2) := by decide +kernel
theorem d_Reader_numberOfWord_40 : decode b_Reader_numberOfWord 40 = .ok (.if_icmp .eq 40, 3) := by decide +kernel
theorem d_Reader_numberOfWord_43 : decode b_Reader_numberOfWord 43 = .ok (.iload_n 3, 1) := by decide +kernel
theorem d_Reader_numberOfWord_44 : decode b_Reader_numberOfWord 44 = .ok (.ifCond .eq 28, 3) := by decide +kernel
theorem d_Reader_numberOfWord_47 : decode b_Reader_numberOfWord 47 = .ok (.iload 6, 2) := by decide +kernel
theorem d_Reader_numberOfWord_49 : decode b_Reader_numberOfWord 49 = .ok (.aload_n 0, 1) := by decide +kernel
theorem d_Reader_numberOfWord_50 : decode b_Reader_numberOfWord 50 = .ok (.getfield 29, 3) := by decide +kernel
theorem d_Reader_numberOfWord_53 : decode b_Reader_numberOfWord 53 = .ok (.if_icmp .ge 19, 3) := by decide +kernel
theorem d_Reader_numberOfWord_56 : decode b_Reader_numberOfWord 56 = .ok (.aload_n 0, 1) := by decide +kernel
theorem d_Reader_numberOfWord_57 : decode b_Reader_numberOfWord 57 = .ok (.getfield 9, 3) := by decide +kernel
theorem d_Reader_numberOfWord_60 : decode b_Reader_numberOfWord 60 = .ok (.iload 6, 2) := by decide +kernel
theorem d_Reader_numberOfWord_62 : decode b_Reader_numberOfWord 62 = .ok (.baload, 1) := by decide +kernel
theorem d_Reader_numberOfWord_63 : decode b_Reader_numberOfWord 63 = .ok (.iload 5, 2) := by decide +kernel
theorem d_Reader_numberOfWord_65 : decode b_Reader_numberOfWord 65 = .ok (.if_icmp .ne 7, 3) := by decide +kernel
theorem d_Reader_numberOfWord_68 : decode b_Reader_numberOfWord 68 = .ok (.iconst 1, 1) := by decide +kernel
theorem d_Reader_numberOfWord_69 : decode b_Reader_numberOfWord 69 = .ok (.goto 4, 3) := by decide +kernel
theorem d_Reader_numberOfWord_72 : decode b_Reader_numberOfWord 72 = .ok (.iconst 0, 1) := by decide +kernel
theorem d_Reader_numberOfWord_73 : decode b_Reader_numberOfWord 73 = .ok (.istore_n 3, 1) := by decide +kernel
theorem d_Reader_numberOfWord_74 : decode b_Reader_numberOfWord 74 = .ok (.iinc 2 1, 3) := by decide +kernel
theorem d_Reader_numberOfWord_77 : decode b_Reader_numberOfWord 77 = .ok (.goto 25, 3) := by decide +kernel
theorem d_Reader_numberOfWord_80 : decode b_Reader_numberOfWord 80 = .ok (.iload_n 3, 1) := by decide +kernel
theorem d_Reader_numberOfWord_81 : decode b_Reader_numberOfWord 81 = .ok (.ifCond .eq 14, 3) := by decide +kernel
theorem d_Reader_numberOfWord_84 : decode b_Reader_numberOfWord 84 = .ok (.iload 6, 2) := by decide +kernel
theorem d_Reader_numberOfWord_86 : decode b_Reader_numberOfWord 86 = .ok (.aload_n 0, 1) := by decide +kernel
theorem d_Reader_numberOfWord_87 : decode b_Reader_numberOfWord 87 = .ok (.getfield 29, 3) := by decide +kernel
theorem d_Reader_numberOfWord_90 : decode b_Reader_numberOfWord 90 = .ok (.if_icmp .ne 5, 3) := by decide +kernel
theorem d_Reader_numberOfWord_93 : decode b_Reader_numberOfWord 93 = .ok (.iload_n 1, 1) := by decide +kernel
theorem d_Reader_numberOfWord_94 : decode b_Reader_numberOfWord 94 = .ok (.ireturn, 1) := by decide +kernel
theorem d_Reader_numberOfWord_95 : decode b_Reader_numberOfWord 95 = .ok (.iinc 1 1, 3) := by decide +kernel
theorem d_Reader_numberOfWord_98 : decode b_Reader_numberOfWord 98 = .ok (.iconst 0, 1) := by decide +kernel
theorem d_Reader_numberOfWord_99 : decode b_Reader_numberOfWord 99 = .ok (.istore_n 2, 1) := by decide +kernel
theorem d_Reader_numberOfWord_100 : decode b_Reader_numberOfWord 100 = .ok (.iconst 1, 1) := by decide +kernel
theorem d_Reader_numberOfWord_101 : decode b_Reader_numberOfWord 101 = .ok (.istore_n 3, 1) := by decide +kernel
theorem d_Reader_numberOfWord_102 : decode b_Reader_numberOfWord 102 = .ok (.iinc 4 1, 3) := by decide +kernel
theorem d_Reader_numberOfWord_105 : decode b_Reader_numberOfWord 105 = .ok (.goto (-96), 3) := by decide +kernel
theorem d_Reader_numberOfWord_108 : decode b_Reader_numberOfWord 108 = .ok (.iconst (-1), 1) := by decide +kernel
theorem d_Reader_numberOfWord_109 : decode b_Reader_numberOfWord 109 = .ok (.ireturn, 1) := by decide +kernel
theorem v_Reader_numberOfWord : dk_Yv y_Reader_numberOfWord b_Reader_numberOfWord 7 (some .int) 0 := ⟨dk_in (List.mem_of_getElem? (i := 502) (by decide +kernel)) rfl, dk_in (List.mem_of_getElem? (i := 2) (by decide +kernel)) rfl, dk_in (List.mem_of_getElem? (i := 69) (by decide +kernel)) rfl, dk_in (List.mem_of_getElem? (i := 503) (by decide +kernel)) rfl, by decide +kernel, by decide +kernel, by decide +kernel⟩
abbrev rm_Reader_numberOfWord : Room := { frames := 4, cells := 0, slots := 0, locals := 85 }
theorem m_Reader_121 : Cond.methodLink R_Reader 121 y_String_length ∈ dk_tb := dk_in (List.mem_of_getElem? (i := 505) (by decide +kernel)) rfl
theorem m_Reader_126 : Cond.methodLink R_Reader 126 y_String_charAt ∈ dk_tb := dk_in (List.mem_of_getElem? (i := 515) (by decide +kernel)) rfl
def B_Reader_numberOfWord_102 (n T : Nat) (k9 : Int32 → Int32 → Int32 → Int32 → dk_S → Option (Int32 × dk_S)) (x1 : Int32) (x2 : Int32) (x3 : Int32) (x4 : Int32) (S : dk_S) : Option (Int32 × dk_S) :=
  k9 x1 x2 x3 (x4 + (1 : Int32)) S
set_option maxRecDepth 20000 in
theorem kb_Reader_numberOfWord_102 {p : Program} {l : Launch} {e : Env} {s : State} {m : MethodId} {args : Array Value} {below : List Frame} {meth : Method} {c : Code} {g : dk_G} {A : Nat → Prop} {Q : State → Prop} {ad : Nat → Nat} {T : Nat} {n : Nat} {res : (Int32 × dk_S)} (X : dk_X p s m args meth c b_Reader_numberOfWord 7 R_Reader (some .int) g A) (hR : dk_Ri p l e rm_Reader_numberOfWord s m args below meth c g A Q 7 b_Reader_numberOfWord (some .int) (wC g ad T) res) {k9 : Int32 → Int32 → Int32 → Int32 → dk_S → Option (Int32 × dk_S)} (hk9 : ∀ (x1 : Int32) (x2 : Int32) (x3 : Int32) (x4 : Int32)  (S : dk_S), k9 x1 x2 x3 x4 S = some res → dk_J p l e rm_Reader_numberOfWord s m args below meth c g A Q 7 0 0 9 [(0, .ref (ad 12)), (1, .int x1), (2, .int x2), (3, .int x3), (4, .int x4)] [] (wC g ad T S)) {x1 : Int32} {x2 : Int32} {x3 : Int32} {x4 : Int32} {S : dk_S}  (hF : B_Reader_numberOfWord_102 n T k9 x1 x2 x3 x4 S = some res) : dk_J p l e rm_Reader_numberOfWord s m args below meth c g A Q 7 0 0 102 [(0, .ref (ad 12)), (1, .int x1), (2, .int x2), (3, .int x3), (4, .int x4)] [] (wC g ad T S) := by
  unfold B_Reader_numberOfWord_102 at hF
  refine dk_iinc (i := 4) (v := (x4 + (1 : Int32))) (lv' := [(4, .int (x4 + (1 : Int32))), (0, .ref (ad 12)), (1, .int x1), (2, .int x2), (3, .int x3)]) X 4 rfl (dk_ii _ (by decide)) (by decide) rfl d_Reader_numberOfWord_102 ?_
  refine dk_goto (tgt := 9) X (by decide) d_Reader_numberOfWord_105 ?_
  exact dk_sub [1, 2, 3, 4, 0] rfl (hk9 x1 x2 x3 (x4 + (1 : Int32)) S hF)
def B_Reader_numberOfWord_73 (n T : Nat) (k9 : Int32 → Int32 → Int32 → Int32 → dk_S → Option (Int32 × dk_S)) (x1 : Int32) (x2 : Int32) (x4 : Int32) (u0 : Int32) (S : dk_S) : Option (Int32 × dk_S) :=
  B_Reader_numberOfWord_102 n T k9 x1 (x2 + (1 : Int32)) u0 x4 S
set_option maxRecDepth 20000 in
theorem kb_Reader_numberOfWord_73 {p : Program} {l : Launch} {e : Env} {s : State} {m : MethodId} {args : Array Value} {below : List Frame} {meth : Method} {c : Code} {g : dk_G} {A : Nat → Prop} {Q : State → Prop} {ad : Nat → Nat} {T : Nat} {n : Nat} {res : (Int32 × dk_S)} (X : dk_X p s m args meth c b_Reader_numberOfWord 7 R_Reader (some .int) g A) (hR : dk_Ri p l e rm_Reader_numberOfWord s m args below meth c g A Q 7 b_Reader_numberOfWord (some .int) (wC g ad T) res) {k9 : Int32 → Int32 → Int32 → Int32 → dk_S → Option (Int32 × dk_S)} (hk9 : ∀ (x1 : Int32) (x2 : Int32) (x3 : Int32) (x4 : Int32)  (S : dk_S), k9 x1 x2 x3 x4 S = some res → dk_J p l e rm_Reader_numberOfWord s m args below meth c g A Q 7 0 0 9 [(0, .ref (ad 12)), (1, .int x1), (2, .int x2), (3, .int x3), (4, .int x4)] [] (wC g ad T S)) {x1 : Int32} {x2 : Int32} {x4 : Int32} {u0 : Int32} {S : dk_S}  (hF : B_Reader_numberOfWord_73 n T k9 x1 x2 x4 u0 S = some res) : dk_J p l e rm_Reader_numberOfWord s m args below meth c g A Q 7 0 0 73 [(0, .ref (ad 12)), (1, .int x1), (2, .int x2), (4, .int x4)] [.int u0] (wC g ad T S) := by
  unfold B_Reader_numberOfWord_73 at hF
  refine dk_istore_n (k := 3) (i := 3) (lv' := [(3, .int u0), (0, .ref (ad 12)), (1, .int x1), (2, .int x2), (4, .int x4)]) X rfl (by decide) rfl d_Reader_numberOfWord_73 ?_
  refine dk_iinc (i := 2) (v := (x2 + (1 : Int32))) (lv' := [(2, .int (x2 + (1 : Int32))), (3, .int u0), (0, .ref (ad 12)), (1, .int x1), (4, .int x4)]) X 3 rfl (dk_ii _ (by decide)) (by decide) rfl d_Reader_numberOfWord_74 ?_
  refine dk_goto (tgt := 102) X (by decide) d_Reader_numberOfWord_77 ?_
  exact dk_sub [2, 3, 0, 1, 4] rfl (kb_Reader_numberOfWord_102 (n := n) X hR hk9  hF)
def B_Reader_numberOfWord_72 (n T : Nat) (k9 : Int32 → Int32 → Int32 → Int32 → dk_S → Option (Int32 × dk_S)) (x1 : Int32) (x2 : Int32) (x4 : Int32) (S : dk_S) : Option (Int32 × dk_S) :=
  B_Reader_numberOfWord_73 n T k9 x1 x2 x4 (0 : Int32) S
set_option maxRecDepth 20000 in
theorem kb_Reader_numberOfWord_72 {p : Program} {l : Launch} {e : Env} {s : State} {m : MethodId} {args : Array Value} {below : List Frame} {meth : Method} {c : Code} {g : dk_G} {A : Nat → Prop} {Q : State → Prop} {ad : Nat → Nat} {T : Nat} {n : Nat} {res : (Int32 × dk_S)} (X : dk_X p s m args meth c b_Reader_numberOfWord 7 R_Reader (some .int) g A) (hR : dk_Ri p l e rm_Reader_numberOfWord s m args below meth c g A Q 7 b_Reader_numberOfWord (some .int) (wC g ad T) res) {k9 : Int32 → Int32 → Int32 → Int32 → dk_S → Option (Int32 × dk_S)} (hk9 : ∀ (x1 : Int32) (x2 : Int32) (x3 : Int32) (x4 : Int32)  (S : dk_S), k9 x1 x2 x3 x4 S = some res → dk_J p l e rm_Reader_numberOfWord s m args below meth c g A Q 7 0 0 9 [(0, .ref (ad 12)), (1, .int x1), (2, .int x2), (3, .int x3), (4, .int x4)] [] (wC g ad T S)) {x1 : Int32} {x2 : Int32} {x4 : Int32} {S : dk_S}  (hF : B_Reader_numberOfWord_72 n T k9 x1 x2 x4 S = some res) : dk_J p l e rm_Reader_numberOfWord s m args below meth c g A Q 7 0 0 72 [(0, .ref (ad 12)), (1, .int x1), (2, .int x2), (4, .int x4)] [] (wC g ad T S) := by
  unfold B_Reader_numberOfWord_72 at hF
  refine dk_iconst (v := 0) X (by decide) d_Reader_numberOfWord_72 ?_
  exact (kb_Reader_numberOfWord_73 (n := n) X hR hk9  hF)
def B_Reader_numberOfWord_95 (n T : Nat) (k9 : Int32 → Int32 → Int32 → Int32 → dk_S → Option (Int32 × dk_S)) (x1 : Int32) (x4 : Int32) (S : dk_S) : Option (Int32 × dk_S) :=
  B_Reader_numberOfWord_102 n T k9 (x1 + (1 : Int32)) (0 : Int32) (1 : Int32) x4 S
set_option maxRecDepth 20000 in
theorem kb_Reader_numberOfWord_95 {p : Program} {l : Launch} {e : Env} {s : State} {m : MethodId} {args : Array Value} {below : List Frame} {meth : Method} {c : Code} {g : dk_G} {A : Nat → Prop} {Q : State → Prop} {ad : Nat → Nat} {T : Nat} {n : Nat} {res : (Int32 × dk_S)} (X : dk_X p s m args meth c b_Reader_numberOfWord 7 R_Reader (some .int) g A) (hR : dk_Ri p l e rm_Reader_numberOfWord s m args below meth c g A Q 7 b_Reader_numberOfWord (some .int) (wC g ad T) res) {k9 : Int32 → Int32 → Int32 → Int32 → dk_S → Option (Int32 × dk_S)} (hk9 : ∀ (x1 : Int32) (x2 : Int32) (x3 : Int32) (x4 : Int32)  (S : dk_S), k9 x1 x2 x3 x4 S = some res → dk_J p l e rm_Reader_numberOfWord s m args below meth c g A Q 7 0 0 9 [(0, .ref (ad 12)), (1, .int x1), (2, .int x2), (3, .int x3), (4, .int x4)] [] (wC g ad T S)) {x1 : Int32} {x4 : Int32} {S : dk_S}  (hF : B_Reader_numberOfWord_95 n T k9 x1 x4 S = some res) : dk_J p l e rm_Reader_numberOfWord s m args below meth c g A Q 7 0 0 95 [(0, .ref (ad 12)), (1, .int x1), (4, .int x4)] [] (wC g ad T S) := by
  unfold B_Reader_numberOfWord_95 at hF
  refine dk_iinc (i := 1) (v := (x1 + (1 : Int32))) (lv' := [(1, .int (x1 + (1 : Int32))), (0, .ref (ad 12)), (4, .int x4)]) X 1 rfl (dk_ii _ (by decide)) (by decide) rfl d_Reader_numberOfWord_95 ?_
  refine dk_iconst (v := 0) X (by decide) d_Reader_numberOfWord_98 ?_
  refine dk_istore_n (k := 2) (i := 2) (lv' := [(2, .int (0 : Int32)), (1, .int (x1 + (1 : Int32))), (0, .ref (ad 12)), (4, .int x4)]) X rfl (by decide) rfl d_Reader_numberOfWord_99 ?_
  refine dk_iconst (v := 1) X (by decide) d_Reader_numberOfWord_100 ?_
  refine dk_istore_n (k := 3) (i := 3) (lv' := [(3, .int (1 : Int32)), (2, .int (0 : Int32)), (1, .int (x1 + (1 : Int32))), (0, .ref (ad 12)), (4, .int x4)]) X rfl (by decide) rfl d_Reader_numberOfWord_101 ?_
  exact dk_sub [3, 2, 1, 0, 4] rfl (kb_Reader_numberOfWord_102 (n := n) X hR hk9  hF)
def B_Reader_numberOfWord_9b (n T : Nat) (k9 : Int32 → Int32 → Int32 → Int32 → dk_S → Option (Int32 × dk_S)) (x1 : Int32) (x2 : Int32) (x3 : Int32) (x4 : Int32) (S : dk_S) : Option (Int32 × dk_S) :=
  dk_c (F_String_length n T S) fun r2 S1 => if r2 ≤ x4 then (some ((-1 : Int32), S1)) else (dk_c (F_String_charAt n T x4 S1) fun r4 S3 => if r4 = (32 : Int32) then (if x3 = 0 then (B_Reader_numberOfWord_95 n T k9 x1 x4 S3) else (if ¬ ((S3 110 0) + x2) = (S3 112 0) then (B_Reader_numberOfWord_95 n T k9 x1 x4 S3) else (some (x1, S3)))) else (if x3 = 0 then (B_Reader_numberOfWord_72 n T k9 x1 x2 x4 S3) else (if (S3 112 0) ≤ ((S3 110 0) + x2) then (B_Reader_numberOfWord_72 n T k9 x1 x2 x4 S3) else (dk_r 160 (S3 13) ((S3 110 0) + x2) fun v5 => if ¬ v5 = r4 then (B_Reader_numberOfWord_72 n T k9 x1 x2 x4 S3) else (B_Reader_numberOfWord_73 n T k9 x1 x2 x4 (1 : Int32) S3)))))
set_option maxRecDepth 20000 in
theorem kb_Reader_numberOfWord_9b {p : Program} {l : Launch} {e : Env} {s : State} {m : MethodId} {args : Array Value} {below : List Frame} {meth : Method} {c : Code} {g : dk_G} {A : Nat → Prop} {Q : State → Prop} {ad : Nat → Nat} {T : Nat} {n : Nat} {res : (Int32 × dk_S)} (X : dk_X p s m args meth c b_Reader_numberOfWord 7 R_Reader (some .int) g A) (hR : dk_Ri p l e rm_Reader_numberOfWord s m args below meth c g A Q 7 b_Reader_numberOfWord (some .int) (wC g ad T) res) {k9 : Int32 → Int32 → Int32 → Int32 → dk_S → Option (Int32 × dk_S)} (hk9 : ∀ (x1 : Int32) (x2 : Int32) (x3 : Int32) (x4 : Int32)  (S : dk_S), k9 x1 x2 x3 x4 S = some res → dk_J p l e rm_Reader_numberOfWord s m args below meth c g A Q 7 0 0 9 [(0, .ref (ad 12)), (1, .int x1), (2, .int x2), (3, .int x3), (4, .int x4)] [] (wC g ad T S)) {x1 : Int32} {x2 : Int32} {x3 : Int32} {x4 : Int32} {S : dk_S}  (hF : B_Reader_numberOfWord_9b n T k9 x1 x2 x3 x4 S = some res) : dk_J p l e rm_Reader_numberOfWord s m args below meth c g A Q 7 0 0 9 [(0, .ref (ad 12)), (1, .int x1), (2, .int x2), (3, .int x3), (4, .int x4)] [] (wC g ad T S) := by
  unfold B_Reader_numberOfWord_9b at hF
  refine dk_iload (i := 4) X 4 rfl d_Reader_numberOfWord_9 ?_
  refine dk_ldcs X d_Reader_numberOfWord_11 ?_
  refine dk_callTi X v_String_length rfl [] (c_String_length l g ad T n S) m_Reader_121 rfl rfl ⟨rfl, rfl, Nat.le_of_ble_eq_true rfl, Nat.le_of_ble_eq_true rfl, Nat.le_refl _, Nat.le_refl _⟩ (Nat.le_of_ble_eq_true rfl) d_Reader_numberOfWord_13 hF (fun r2 S1 hF => ?_)
  refine dk_icmp_ge (tgt := 108) X (by decide) d_Reader_numberOfWord_16 hF (fun hF => ?_) (fun hF => ?_)
  · refine dk_iconst (v := -1) X (by decide) d_Reader_numberOfWord_108 ?_
    exact dk_reti hR hF d_Reader_numberOfWord_109
  · refine dk_ldcs X d_Reader_numberOfWord_19 ?_
    refine dk_iload (i := 4) X 4 rfl d_Reader_numberOfWord_21 ?_
    refine dk_callTi X v_String_charAt rfl [.int x4] (c_String_charAt l g ad T n x4 S1) m_Reader_126 rfl rfl ⟨rfl, rfl, Nat.le_of_ble_eq_true rfl, Nat.le_of_ble_eq_true rfl, Nat.le_refl _, Nat.le_refl _⟩ (Nat.le_of_ble_eq_true rfl) d_Reader_numberOfWord_23 hF (fun r4 S3 hF => ?_)
    refine dk_istore (i := 5) (lv' := [(5, .int r4), (0, .ref (ad 12)), (1, .int x1), (2, .int x2), (3, .int x3), (4, .int x4)]) X (by decide) rfl d_Reader_numberOfWord_26 ?_
    refine dk_aload_n (k := 0) (i := 0) X 1 rfl rfl d_Reader_numberOfWord_28 ?_
    refine dk_get X q_Reader 12 7 (by decide) (oC_Reader g ad T S3) rfl f_Reader_97 d_Reader_numberOfWord_29 ?_
    refine dk_iload_n (k := 2) (i := 2) X 3 rfl rfl d_Reader_numberOfWord_32 ?_
    refine dk_iadd X d_Reader_numberOfWord_33 ?_
    refine dk_istore (i := 6) (lv' := [(6, .int ((S3 110 0) + x2)), (5, .int r4), (0, .ref (ad 12)), (1, .int x1), (2, .int x2), (3, .int x3), (4, .int x4)]) X (by decide) rfl d_Reader_numberOfWord_34 ?_
    refine dk_iload (i := 5) X 1 rfl d_Reader_numberOfWord_36 ?_
    refine dk_bipush (v := 32) X (by decide) d_Reader_numberOfWord_38 ?_
    refine dk_icmp_eq (tgt := 80) X (by decide) d_Reader_numberOfWord_40 hF (fun hF => ?_) (fun hF => ?_)
    · refine dk_iload_n (k := 3) (i := 3) X 5 rfl rfl d_Reader_numberOfWord_80 ?_
      refine dk_if_eq (tgt := 95) X (by decide) d_Reader_numberOfWord_81 hF (fun hF => ?_) (fun hF => ?_)
      · exact dk_sub [2, 3, 6] rfl (kb_Reader_numberOfWord_95 (n := n) X hR hk9  hF)
      · refine dk_iload (i := 6) X 0 rfl d_Reader_numberOfWord_84 ?_
        refine dk_aload_n (k := 0) (i := 0) X 2 rfl rfl d_Reader_numberOfWord_86 ?_
        refine dk_get X q_Reader 12 9 (by decide) (oC_Reader g ad T S3) rfl f_Reader_29 d_Reader_numberOfWord_87 ?_
        refine dk_icmp_ne (tgt := 95) X (by decide) d_Reader_numberOfWord_90 hF (fun hF => ?_) (fun hF => ?_)
        · exact dk_sub [2, 3, 6] rfl (kb_Reader_numberOfWord_95 (n := n) X hR hk9  hF)
        · refine dk_iload_n (k := 1) (i := 1) X 3 rfl rfl d_Reader_numberOfWord_93 ?_
          exact dk_reti hR hF d_Reader_numberOfWord_94
    · refine dk_iload_n (k := 3) (i := 3) X 5 rfl rfl d_Reader_numberOfWord_43 ?_
      refine dk_if_eq (tgt := 72) X (by decide) d_Reader_numberOfWord_44 hF (fun hF => ?_) (fun hF => ?_)
      · exact dk_sub [2, 3, 4, 6] rfl (kb_Reader_numberOfWord_72 (n := n) X hR hk9  hF)
      · refine dk_iload (i := 6) X 0 rfl d_Reader_numberOfWord_47 ?_
        refine dk_aload_n (k := 0) (i := 0) X 2 rfl rfl d_Reader_numberOfWord_49 ?_
        refine dk_get X q_Reader 12 9 (by decide) (oC_Reader g ad T S3) rfl f_Reader_29 d_Reader_numberOfWord_50 ?_
        refine dk_icmp_ge (tgt := 72) X (by decide) d_Reader_numberOfWord_53 hF (fun hF => ?_) (fun hF => ?_)
        · exact dk_sub [2, 3, 4, 6] rfl (kb_Reader_numberOfWord_72 (n := n) X hR hk9  hF)
        · refine dk_aload_n (k := 0) (i := 0) X 2 rfl rfl d_Reader_numberOfWord_56 ?_
          refine dk_get X q_Reader 12 0 (by decide) (oC_Reader g ad T S3) rfl f_Reader_9 d_Reader_numberOfWord_57 ?_
          refine dk_iload (i := 6) X 0 rfl d_Reader_numberOfWord_60 ?_
          refine dk_bald X 13 (aC_13 g ad T S3) d_Reader_numberOfWord_62 hF (fun v5 hF => ?_)
          refine dk_iload (i := 5) X 1 rfl d_Reader_numberOfWord_63 ?_
          refine dk_icmp_ne (tgt := 72) X (by decide) d_Reader_numberOfWord_65 hF (fun hF => ?_) (fun hF => ?_)
          · exact dk_sub [2, 3, 4, 6] rfl (kb_Reader_numberOfWord_72 (n := n) X hR hk9  hF)
          · refine dk_iconst (v := 1) X (by decide) d_Reader_numberOfWord_68 ?_
            refine dk_goto (tgt := 73) X (by decide) d_Reader_numberOfWord_69 ?_
            exact dk_sub [2, 3, 4, 6] rfl (kb_Reader_numberOfWord_73 (n := n) X hR hk9  hF)
def B_Reader_numberOfWord_9 (n T : Nat)  : Nat → Int32 → Int32 → Int32 → Int32 → dk_S → Option (Int32 × dk_S)
  | 0 => fun _ _ _ _ _ => none
  | q + 1 => fun x1 x2 x3 x4 S => B_Reader_numberOfWord_9b n T (fun x1 x2 x3 x4 S => B_Reader_numberOfWord_9 n T  q x1 x2 x3 x4 S) x1 x2 x3 x4 S
theorem kb_Reader_numberOfWord_9 {p : Program} {l : Launch} {e : Env} {s : State} {m : MethodId} {args : Array Value} {below : List Frame} {meth : Method} {c : Code} {g : dk_G} {A : Nat → Prop} {Q : State → Prop} {ad : Nat → Nat} {T : Nat} {n : Nat} {res : (Int32 × dk_S)} (X : dk_X p s m args meth c b_Reader_numberOfWord 7 R_Reader (some .int) g A) (hR : dk_Ri p l e rm_Reader_numberOfWord s m args below meth c g A Q 7 b_Reader_numberOfWord (some .int) (wC g ad T) res)  : ∀ (q : Nat) (x1 : Int32) (x2 : Int32) (x3 : Int32) (x4 : Int32)  (S : dk_S), B_Reader_numberOfWord_9 n T  q x1 x2 x3 x4 S = some res → dk_J p l e rm_Reader_numberOfWord s m args below meth c g A Q 7 0 0 9 [(0, .ref (ad 12)), (1, .int x1), (2, .int x2), (3, .int x3), (4, .int x4)] [] (wC g ad T S) := by
  intro q
  induction q with
  | zero => intro x1 x2 x3 x4  S hF; cases hF
  | succ q ih => intro x1 x2 x3 x4  S hF; exact kb_Reader_numberOfWord_9b (n := n) X hR ih  hF
def B_Reader_numberOfWord_0 (n T : Nat)   (S : dk_S) : Option (Int32 × dk_S) :=
  B_Reader_numberOfWord_9 n T  n (0 : Int32) (0 : Int32) (1 : Int32) (0 : Int32) S
set_option maxRecDepth 20000 in
theorem kb_Reader_numberOfWord_0 {p : Program} {l : Launch} {e : Env} {s : State} {m : MethodId} {args : Array Value} {below : List Frame} {meth : Method} {c : Code} {g : dk_G} {A : Nat → Prop} {Q : State → Prop} {ad : Nat → Nat} {T : Nat} {n : Nat} {res : (Int32 × dk_S)} (X : dk_X p s m args meth c b_Reader_numberOfWord 7 R_Reader (some .int) g A) (hR : dk_Ri p l e rm_Reader_numberOfWord s m args below meth c g A Q 7 b_Reader_numberOfWord (some .int) (wC g ad T) res)   {S : dk_S}  (hF : B_Reader_numberOfWord_0 n T   S = some res) : dk_J p l e rm_Reader_numberOfWord s m args below meth c g A Q 7 0 0 0 [(0, .ref (ad 12))] [] (wC g ad T S) := by
  unfold B_Reader_numberOfWord_0 at hF
  refine dk_iconst (v := 0) X (by decide) d_Reader_numberOfWord_0 ?_
  refine dk_istore_n (k := 1) (i := 1) (lv' := [(1, .int (0 : Int32)), (0, .ref (ad 12))]) X rfl (by decide) rfl d_Reader_numberOfWord_1 ?_
  refine dk_iconst (v := 0) X (by decide) d_Reader_numberOfWord_2 ?_
  refine dk_istore_n (k := 2) (i := 2) (lv' := [(2, .int (0 : Int32)), (1, .int (0 : Int32)), (0, .ref (ad 12))]) X rfl (by decide) rfl d_Reader_numberOfWord_3 ?_
  refine dk_iconst (v := 1) X (by decide) d_Reader_numberOfWord_4 ?_
  refine dk_istore_n (k := 3) (i := 3) (lv' := [(3, .int (1 : Int32)), (2, .int (0 : Int32)), (1, .int (0 : Int32)), (0, .ref (ad 12))]) X rfl (by decide) rfl d_Reader_numberOfWord_5 ?_
  refine dk_iconst (v := 0) X (by decide) d_Reader_numberOfWord_6 ?_
  refine dk_istore (i := 4) (lv' := [(4, .int (0 : Int32)), (3, .int (1 : Int32)), (2, .int (0 : Int32)), (1, .int (0 : Int32)), (0, .ref (ad 12))]) X (by decide) rfl d_Reader_numberOfWord_7 ?_
  exact dk_sub [4, 3, 2, 1, 0] rfl (kb_Reader_numberOfWord_9 (n := n) X hR  n (0 : Int32) (0 : Int32) (1 : Int32) (0 : Int32) S hF)
def F_Reader_numberOfWord (n T : Nat)  (S : dk_S) : Option (Int32 × dk_S) := B_Reader_numberOfWord_0 n T  S
theorem c_Reader_numberOfWord (l : Launch) (g : dk_G) (ad : Nat → Nat) (T n : Nat)   (S : dk_S) : dk_Mi l g y_Reader_numberOfWord b_Reader_numberOfWord 7 rm_Reader_numberOfWord (some .int) [.ref (ad 12)] (wC g ad T) S (F_Reader_numberOfWord n T  S) := dk_enteri (by decide) (Nat.le_of_ble_eq_true rfl) (fun p e s m args below meth c A Q res hF X hR => (kb_Reader_numberOfWord_0 (n := n) X hR  hF))
abbrev b_Reader_scanWord : ByteArray := prog_5_method_18_code
def y_Reader_scanWord : MethodName := ⟨R_Reader, "scanWord", "()V"⟩
theorem d_Reader_scanWord_0 : decode b_Reader_scanWord 0 = .ok (.aload_n 0, 1) := by decide +kernel
theorem d_Reader_scanWord_1 : decode b_Reader_scanWord 1 = .ok (.getfield 29, 3) := by decide +kernel
theorem d_Reader_scanWord_4 : decode b_Reader_scanWord 4 = .ok (.aload_n 0, 1) := by decide +kernel
theorem d_Reader_scanWord_5 : decode b_Reader_scanWord 5 = .ok (.getfield 19, 3) := by decide +kernel
theorem d_Reader_scanWord_8 : decode b_Reader_scanWord 8 = .ok (.if_icmp .ge 31, 3) := by decide +kernel
theorem d_Reader_scanWord_11 : decode b_Reader_scanWord 11 = .ok (.aload_n 0, 1) := by decide +kernel
theorem d_Reader_scanWord_12 : decode b_Reader_scanWord 12 = .ok (.getfield 9, 3) := by decide +kernel
theorem d_Reader_scanWord_15 : decode b_Reader_scanWord 15 = .ok (.aload_n 0, 1) := by decide +kernel
theorem d_Reader_scanWord_16 : decode b_Reader_scanWord 16 = .ok (.getfield 29, 3) := by decide +kernel
theorem d_Reader_scanWord_19 : decode b_Reader_scanWord 19 = .ok (.baload, 1) := by decide +kernel
theorem d_Reader_scanWord_20 : decode b_Reader_scanWord 20 = .ok (.invokestatic 100, 3) := by decide +kernel
theorem d_Reader_scanWord_23 : decode b_Reader_scanWord 23 = .ok (.ifCond .eq 16, 3) := by decide +kernel
theorem d_Reader_scanWord_26 : decode b_Reader_scanWord 26 = .ok (.aload_n 0, 1) := by decide +kernel
theorem d_Reader_scanWord_27 : decode b_Reader_scanWord 27 = .ok (.dup, 1) := by decide +kernel
theorem d_Reader_scanWord_28 : decode b_Reader_scanWord 28 = .ok (.getfield 29, 3) := by decide +kernel
theorem d_Reader_scanWord_31 : decode b_Reader_scanWord 31 = .ok (.iconst 1, 1) := by decide +kernel
theorem d_Reader_scanWord_32 : decode b_Reader_scanWord 32 = .ok (.iadd, 1) := by decide +kernel
theorem d_Reader_scanWord_33 : decode b_Reader_scanWord 33 = .ok (.putfield 29, 3) := by decide +kernel
theorem d_Reader_scanWord_36 : decode b_Reader_scanWord 36 = .ok (.goto (-36), 3) := by decide +kernel
theorem d_Reader_scanWord_39 : decode b_Reader_scanWord 39 = .ok (.aload_n 0, 1) := by decide +kernel
theorem d_Reader_scanWord_40 : decode b_Reader_scanWord 40 = .ok (.invokevirtual 115, 3) := by decide +kernel
theorem d_Reader_scanWord_43 : decode b_Reader_scanWord 43 = .ok (.istore_n 1, 1) := by decide +kernel
theorem d_Reader_scanWord_44 : decode b_Reader_scanWord 44 = .ok (.iload_n 1, 1) := by decide +kernel
theorem d_Reader_scanWord_45 : decode b_Reader_scanWord 45 = .ok (.ifCond .ge 11, 3) := by decide +kernel
theorem d_Reader_scanWord_48 : decode b_Reader_scanWord 48 = .ok (.aload_n 0, 1) := by decide +kernel
theorem d_Reader_scanWord_49 : decode b_Reader_scanWord 49 = .ok (.iconst 1, 1) := by decide +kernel
theorem d_Reader_scanWord_50 : decode b_Reader_scanWord 50 = .ok (.putfield 82, 3) := by decide +kernel
theorem d_Reader_scanWord_53 : decode b_Reader_scanWord 53 = .ok (.goto 34, 3) := by decide +kernel
theorem d_Reader_scanWord_56 : decode b_Reader_scanWord 56 = .ok (.iload_n 1, 1) := by decide +kernel
theorem d_Reader_scanWord_57 : decode b_Reader_scanWord 57 = .ok (.bipush 6, 2) := by decide +kernel
theorem d_Reader_scanWord_59 : decode b_Reader_scanWord 59 = .ok (.if_icmp .ge 18, 3) := by decide +kernel
theorem d_Reader_scanWord_62 : decode b_Reader_scanWord 62 = .ok (.aload_n 0, 1) := by decide +kernel
theorem d_Reader_scanWord_63 : decode b_Reader_scanWord 63 = .ok (.iconst 3, 1) := by decide +kernel
theorem d_Reader_scanWord_64 : decode b_Reader_scanWord 64 = .ok (.putfield 82, 3) := by decide +kernel
theorem d_Reader_scanWord_67 : decode b_Reader_scanWord 67 = .ok (.aload_n 0, 1) := by decide +kernel
theorem d_Reader_scanWord_68 : decode b_Reader_scanWord 68 = .ok (.iconst (-1), 1) := by decide +kernel
theorem d_Reader_scanWord_69 : decode b_Reader_scanWord 69 = .ok (.iload_n 1, 1) := by decide +kernel
theorem d_Reader_scanWord_70 : decode b_Reader_scanWord 70 = .ok (.isub, 1) := by decide +kernel
theorem d_Reader_scanWord_71 : decode b_Reader_scanWord 71 = .ok (.putfield 91, 3) := by decide +kernel
theorem d_Reader_scanWord_74 : decode b_Reader_scanWord 74 = .ok (.goto 13, 3) := by decide +kernel
theorem d_Reader_scanWord_77 : decode b_Reader_scanWord 77 = .ok (.aload_n 0, 1) := by decide +kernel
theorem d_Reader_scanWord_78 : decode b_Reader_scanWord 78 = .ok (.iconst 4, 1) := by decide +kernel
theorem d_Reader_scanWord_79 : decode b_Reader_scanWord 79 = .ok (.iload_n 1, 1) := by decide +kernel
theorem d_Reader_scanWord_80 : decode b_Reader_scanWord 80 = .ok (.bipush 6, 2) := by decide +kernel
theorem d_Reader_scanWord_82 : decode b_Reader_scanWord 82 = .ok (.isub, 1) := by decide +kernel
theorem d_Reader_scanWord_83 : decode b_Reader_scanWord 83 = .ok (.iadd, 1) := by decide +kernel
theorem d_Reader_scanWord_84 : decode b_Reader_scanWord 84 = .ok (.putfield 82, 3) := by decide +kernel
theorem d_Reader_scanWord_87 : decode b_Reader_scanWord 87 = .ok (.return_, 1) := by decide +kernel
theorem v_Reader_scanWord : dk_Yv y_Reader_scanWord b_Reader_scanWord 2 (none) 0 := ⟨dk_in (List.mem_of_getElem? (i := 498) (by decide +kernel)) rfl, dk_in (List.mem_of_getElem? (i := 1) (by decide +kernel)) rfl, dk_in (List.mem_of_getElem? (i := 69) (by decide +kernel)) rfl, dk_in (List.mem_of_getElem? (i := 499) (by decide +kernel)) rfl, by decide +kernel, by decide +kernel, by decide +kernel⟩
abbrev rm_Reader_scanWord : Room := { frames := 5, cells := 0, slots := 0, locals := 111 }
theorem m_Reader_100 : Cond.methodLink R_Reader 100 y_Reader_isLetter ∈ dk_tb := dk_in (List.mem_of_getElem? (i := 493) (by decide +kernel)) rfl
theorem m_Reader_115 : Cond.methodLink R_Reader 115 y_Reader_numberOfWord ∈ dk_tb := dk_in (List.mem_of_getElem? (i := 500) (by decide +kernel)) rfl
def B_Reader_scanWord_39 (n T : Nat)   (S : dk_S) : Option dk_S :=
  dk_c (F_Reader_numberOfWord n T S) fun r2 S1 => if 0 ≤ r2 then (if (6 : Int32) ≤ r2 then (dk_p S1 109 ((4 : Int32) + (r2 - (6 : Int32))) fun S3 => some S3) else (dk_p S1 109 (3 : Int32) fun S4 => dk_p S4 111 ((-1 : Int32) - r2) fun S5 => some S5)) else (dk_p S1 109 (1 : Int32) fun S6 => some S6)
set_option maxRecDepth 20000 in
theorem kb_Reader_scanWord_39 {p : Program} {l : Launch} {e : Env} {s : State} {m : MethodId} {args : Array Value} {below : List Frame} {meth : Method} {c : Code} {g : dk_G} {A : Nat → Prop} {Q : State → Prop} {ad : Nat → Nat} {T : Nat} {n : Nat} {res : dk_S} (X : dk_X p s m args meth c b_Reader_scanWord 2 R_Reader (none) g A) (hR : dk_Rv p l e rm_Reader_scanWord s m args below meth c g A Q 2 b_Reader_scanWord (none) (wC g ad T) res)   {S : dk_S}  (hF : B_Reader_scanWord_39 n T   S = some res) : dk_J p l e rm_Reader_scanWord s m args below meth c g A Q 2 0 0 39 [(0, .ref (ad 12))] [] (wC g ad T S) := by
  unfold B_Reader_scanWord_39 at hF
  refine dk_aload_n (k := 0) (i := 0) X 0 rfl rfl d_Reader_scanWord_39 ?_
  refine dk_callVi X v_Reader_numberOfWord [] (c_Reader_numberOfWord l g ad T n S) 12 (oC_Reader g ad T S) rfl rfl m_Reader_115 rfl rfl ⟨rfl, rfl, Nat.le_of_ble_eq_true rfl, Nat.le_of_ble_eq_true rfl, Nat.le_refl _, Nat.le_refl _⟩ (Nat.le_of_ble_eq_true rfl) d_Reader_scanWord_40 hF (fun r2 S1 hF => ?_)
  refine dk_istore_n (k := 1) (i := 1) (lv' := [(1, .int r2), (0, .ref (ad 12))]) X rfl (by decide) rfl d_Reader_scanWord_43 ?_
  refine dk_iload_n (k := 1) (i := 1) X 0 rfl rfl d_Reader_scanWord_44 ?_
  refine dk_if_ge (tgt := 56) X (by decide) d_Reader_scanWord_45 hF (fun hF => ?_) (fun hF => ?_)
  · refine dk_iload_n (k := 1) (i := 1) X 0 rfl rfl d_Reader_scanWord_56 ?_
    refine dk_bipush (v := 6) X (by decide) d_Reader_scanWord_57 ?_
    refine dk_icmp_ge (tgt := 77) X (by decide) d_Reader_scanWord_59 hF (fun hF => ?_) (fun hF => ?_)
    · refine dk_aload_n (k := 0) (i := 0) X 1 rfl rfl d_Reader_scanWord_77 ?_
      refine dk_iconst (v := 4) X (by decide) d_Reader_scanWord_78 ?_
      refine dk_iload_n (k := 1) (i := 1) X 0 rfl rfl d_Reader_scanWord_79 ?_
      refine dk_bipush (v := 6) X (by decide) d_Reader_scanWord_80 ?_
      refine dk_isub X d_Reader_scanWord_82 ?_
      refine dk_iadd X d_Reader_scanWord_83 ?_
      refine dk_puti X q_Reader 12 6 (by decide) (oC_Reader g ad T S1) f_Reader_82 rfl rfl (Nat.le_of_ble_eq_true rfl) (sC_Reader_token g ad T S1 _) d_Reader_scanWord_84 hF (fun S3 hF => ?_)
      exact dk_retv hR hF d_Reader_scanWord_87
    · refine dk_aload_n (k := 0) (i := 0) X 1 rfl rfl d_Reader_scanWord_62 ?_
      refine dk_iconst (v := 3) X (by decide) d_Reader_scanWord_63 ?_
      refine dk_puti X q_Reader 12 6 (by decide) (oC_Reader g ad T S1) f_Reader_82 rfl rfl (Nat.le_of_ble_eq_true rfl) (sC_Reader_token g ad T S1 _) d_Reader_scanWord_64 hF (fun S4 hF => ?_)
      refine dk_aload_n (k := 0) (i := 0) X 1 rfl rfl d_Reader_scanWord_67 ?_
      refine dk_iconst (v := -1) X (by decide) d_Reader_scanWord_68 ?_
      refine dk_iload_n (k := 1) (i := 1) X 0 rfl rfl d_Reader_scanWord_69 ?_
      refine dk_isub X d_Reader_scanWord_70 ?_
      refine dk_puti X q_Reader 12 8 (by decide) (oC_Reader g ad T S4) f_Reader_91 rfl rfl (Nat.le_of_ble_eq_true rfl) (sC_Reader_tokenCode g ad T S4 _) d_Reader_scanWord_71 hF (fun S5 hF => ?_)
      refine dk_goto (tgt := 87) X (by decide) d_Reader_scanWord_74 ?_
      exact dk_retv hR hF d_Reader_scanWord_87
  · refine dk_aload_n (k := 0) (i := 0) X 1 rfl rfl d_Reader_scanWord_48 ?_
    refine dk_iconst (v := 1) X (by decide) d_Reader_scanWord_49 ?_
    refine dk_puti X q_Reader 12 6 (by decide) (oC_Reader g ad T S1) f_Reader_82 rfl rfl (Nat.le_of_ble_eq_true rfl) (sC_Reader_token g ad T S1 _) d_Reader_scanWord_50 hF (fun S6 hF => ?_)
    refine dk_goto (tgt := 87) X (by decide) d_Reader_scanWord_53 ?_
    exact dk_retv hR hF d_Reader_scanWord_87
def B_Reader_scanWord_0b (n T : Nat) (k0 : dk_S → Option dk_S)  (S : dk_S) : Option dk_S :=
  if (S 105 0) ≤ (S 112 0) then (B_Reader_scanWord_39 n T  S) else (dk_r 160 (S 13) (S 112 0) fun v7 => dk_c (F_Reader_isLetter n T v7 S) fun r9 S8 => if r9 = 0 then (B_Reader_scanWord_39 n T  S8) else (dk_p S8 112 ((S8 112 0) + (1 : Int32)) fun S10 => k0 S10))
set_option maxRecDepth 20000 in
theorem kb_Reader_scanWord_0b {p : Program} {l : Launch} {e : Env} {s : State} {m : MethodId} {args : Array Value} {below : List Frame} {meth : Method} {c : Code} {g : dk_G} {A : Nat → Prop} {Q : State → Prop} {ad : Nat → Nat} {T : Nat} {n : Nat} {res : dk_S} (X : dk_X p s m args meth c b_Reader_scanWord 2 R_Reader (none) g A) (hR : dk_Rv p l e rm_Reader_scanWord s m args below meth c g A Q 2 b_Reader_scanWord (none) (wC g ad T) res) {k0 : dk_S → Option dk_S} (hk0 : ∀   (S : dk_S), k0  S = some res → dk_J p l e rm_Reader_scanWord s m args below meth c g A Q 2 0 0 0 [(0, .ref (ad 12))] [] (wC g ad T S))  {S : dk_S}  (hF : B_Reader_scanWord_0b n T k0  S = some res) : dk_J p l e rm_Reader_scanWord s m args below meth c g A Q 2 0 0 0 [(0, .ref (ad 12))] [] (wC g ad T S) := by
  unfold B_Reader_scanWord_0b at hF
  refine dk_aload_n (k := 0) (i := 0) X 0 rfl rfl d_Reader_scanWord_0 ?_
  refine dk_get X q_Reader 12 9 (by decide) (oC_Reader g ad T S) rfl f_Reader_29 d_Reader_scanWord_1 ?_
  refine dk_aload_n (k := 0) (i := 0) X 0 rfl rfl d_Reader_scanWord_4 ?_
  refine dk_get X q_Reader 12 1 (by decide) (oC_Reader g ad T S) rfl f_Reader_19 d_Reader_scanWord_5 ?_
  refine dk_icmp_ge (tgt := 39) X (by decide) d_Reader_scanWord_8 hF (fun hF => ?_) (fun hF => ?_)
  · exact (kb_Reader_scanWord_39 (n := n) X hR   hF)
  · refine dk_aload_n (k := 0) (i := 0) X 0 rfl rfl d_Reader_scanWord_11 ?_
    refine dk_get X q_Reader 12 0 (by decide) (oC_Reader g ad T S) rfl f_Reader_9 d_Reader_scanWord_12 ?_
    refine dk_aload_n (k := 0) (i := 0) X 0 rfl rfl d_Reader_scanWord_15 ?_
    refine dk_get X q_Reader 12 9 (by decide) (oC_Reader g ad T S) rfl f_Reader_29 d_Reader_scanWord_16 ?_
    refine dk_bald X 13 (aC_13 g ad T S) d_Reader_scanWord_19 hF (fun v7 hF => ?_)
    refine dk_callSi X v_Reader_isLetter [.int v7] (c_Reader_isLetter l g ad T n v7 S) m_Reader_100 rfl rfl ⟨rfl, rfl, Nat.le_of_ble_eq_true rfl, Nat.le_of_ble_eq_true rfl, Nat.le_refl _, Nat.le_refl _⟩ (Nat.le_of_ble_eq_true rfl) d_Reader_scanWord_20 hF (fun r9 S8 hF => ?_)
    refine dk_if_eq (tgt := 39) X (by decide) d_Reader_scanWord_23 hF (fun hF => ?_) (fun hF => ?_)
    · exact (kb_Reader_scanWord_39 (n := n) X hR   hF)
    · refine dk_aload_n (k := 0) (i := 0) X 0 rfl rfl d_Reader_scanWord_26 ?_
      refine dk_dup X rfl d_Reader_scanWord_27 ?_
      refine dk_get X q_Reader 12 9 (by decide) (oC_Reader g ad T S8) rfl f_Reader_29 d_Reader_scanWord_28 ?_
      refine dk_iconst (v := 1) X (by decide) d_Reader_scanWord_31 ?_
      refine dk_iadd X d_Reader_scanWord_32 ?_
      refine dk_puti X q_Reader 12 9 (by decide) (oC_Reader g ad T S8) f_Reader_29 rfl rfl (Nat.le_of_ble_eq_true rfl) (sC_Reader_next g ad T S8 _) d_Reader_scanWord_33 hF (fun S10 hF => ?_)
      refine dk_goto (tgt := 0) X (by decide) d_Reader_scanWord_36 ?_
      exact (hk0 S10 hF)
def B_Reader_scanWord_0 (n T : Nat)  : Nat → dk_S → Option dk_S
  | 0 => fun  _ => none
  | q + 1 => fun  S => B_Reader_scanWord_0b n T (fun  S => B_Reader_scanWord_0 n T  q  S)  S
theorem kb_Reader_scanWord_0 {p : Program} {l : Launch} {e : Env} {s : State} {m : MethodId} {args : Array Value} {below : List Frame} {meth : Method} {c : Code} {g : dk_G} {A : Nat → Prop} {Q : State → Prop} {ad : Nat → Nat} {T : Nat} {n : Nat} {res : dk_S} (X : dk_X p s m args meth c b_Reader_scanWord 2 R_Reader (none) g A) (hR : dk_Rv p l e rm_Reader_scanWord s m args below meth c g A Q 2 b_Reader_scanWord (none) (wC g ad T) res)  : ∀ (q : Nat)   (S : dk_S), B_Reader_scanWord_0 n T  q  S = some res → dk_J p l e rm_Reader_scanWord s m args below meth c g A Q 2 0 0 0 [(0, .ref (ad 12))] [] (wC g ad T S) := by
  intro q
  induction q with
  | zero => intro   S hF; cases hF
  | succ q ih => intro   S hF; exact kb_Reader_scanWord_0b (n := n) X hR ih  hF
def F_Reader_scanWord (n T : Nat)  (S : dk_S) : Option dk_S := B_Reader_scanWord_0 n T n  S
theorem c_Reader_scanWord (l : Launch) (g : dk_G) (ad : Nat → Nat) (T n : Nat)   (S : dk_S) : dk_Mv l g y_Reader_scanWord b_Reader_scanWord 2 rm_Reader_scanWord (none) [.ref (ad 12)] (wC g ad T) S (F_Reader_scanWord n T  S) := dk_enterv (by decide) rfl (Nat.le_of_ble_eq_true rfl) (fun p e s m args below meth c A Q res hF X hR => (kb_Reader_scanWord_0 (n := n) X hR n   S hF))
abbrev b_Reader_scan : ByteArray := prog_5_method_17_code
def y_Reader_scan : MethodName := ⟨R_Reader, "scan", "()V"⟩
theorem d_Reader_scan_0 : decode b_Reader_scan 0 = .ok (.aload_n 0, 1) := by decide +kernel
theorem d_Reader_scan_1 : decode b_Reader_scan 1 = .ok (.getfield 29, 3) := by decide +kernel
theorem d_Reader_scan_4 : decode b_Reader_scan 4 = .ok (.istore_n 1, 1) := by decide +kernel
theorem d_Reader_scan_5 : decode b_Reader_scan 5 = .ok (.iload_n 1, 1) := by decide +kernel
theorem d_Reader_scan_6 : decode b_Reader_scan 6 = .ok (.aload_n 0, 1) := by decide +kernel
theorem d_Reader_scan_7 : decode b_Reader_scan 7 = .ok (.getfield 19, 3) := by decide +kernel
theorem d_Reader_scan_10 : decode b_Reader_scan 10 = .ok (.if_icmp .ge 31, 3) := by decide +kernel
theorem d_Reader_scan_13 : decode b_Reader_scan 13 = .ok (.aload_n 0, 1) := by decide +kernel
theorem d_Reader_scan_14 : decode b_Reader_scan 14 = .ok (.getfield 9, 3) := by decide +kernel
theorem d_Reader_scan_17 : decode b_Reader_scan 17 = .ok (.iload_n 1, 1) := by decide +kernel
theorem d_Reader_scan_18 : decode b_Reader_scan 18 = .ok (.baload, 1) := by decide +kernel
theorem d_Reader_scan_19 : decode b_Reader_scan 19 = .ok (.bipush 32, 2) := by decide +kernel
theorem d_Reader_scan_21 : decode b_Reader_scan 21 = .ok (.if_icmp .eq 14, 3) := by decide +kernel
theorem d_Reader_scan_24 : decode b_Reader_scan 24 = .ok (.aload_n 0, 1) := by decide +kernel
theorem d_Reader_scan_25 : decode b_Reader_scan 25 = .ok (.getfield 9, 3) := by decide +kernel
theorem d_Reader_scan_28 : decode b_Reader_scan 28 = .ok (.iload_n 1, 1) := by decide +kernel
theorem d_Reader_scan_29 : decode b_Reader_scan 29 = .ok (.baload, 1) := by decide +kernel
theorem d_Reader_scan_30 : decode b_Reader_scan 30 = .ok (.bipush 10, 2) := by decide +kernel
theorem d_Reader_scan_32 : decode b_Reader_scan 32 = .ok (.if_icmp .ne 9, 3) := by decide +kernel
theorem d_Reader_scan_35 : decode b_Reader_scan 35 = .ok (.iinc 1 1, 3) := by decide +kernel
theorem d_Reader_scan_38 : decode b_Reader_scan 38 = .ok (.goto (-33), 3) := by decide +kernel
theorem d_Reader_scan_41 : decode b_Reader_scan 41 = .ok (.aload_n 0, 1) := by decide +kernel
theorem d_Reader_scan_42 : decode b_Reader_scan 42 = .ok (.iload_n 1, 1) := by decide +kernel
theorem d_Reader_scan_43 : decode b_Reader_scan 43 = .ok (.putfield 97, 3) := by decide +kernel
theorem d_Reader_scan_46 : decode b_Reader_scan 46 = .ok (.aload_n 0, 1) := by decide +kernel
theorem d_Reader_scan_47 : decode b_Reader_scan 47 = .ok (.iload_n 1, 1) := by decide +kernel
theorem d_Reader_scan_48 : decode b_Reader_scan 48 = .ok (.putfield 29, 3) := by decide +kernel
theorem d_Reader_scan_51 : decode b_Reader_scan 51 = .ok (.iload_n 1, 1) := by decide +kernel
theorem d_Reader_scan_52 : decode b_Reader_scan 52 = .ok (.aload_n 0, 1) := by decide +kernel
theorem d_Reader_scan_53 : decode b_Reader_scan 53 = .ok (.getfield 19, 3) := by decide +kernel
theorem d_Reader_scan_56 : decode b_Reader_scan 56 = .ok (.if_icmp .lt 11, 3) := by decide +kernel
theorem d_Reader_scan_59 : decode b_Reader_scan 59 = .ok (.aload_n 0, 1) := by decide +kernel
theorem d_Reader_scan_60 : decode b_Reader_scan 60 = .ok (.iconst 0, 1) := by decide +kernel
theorem d_Reader_scan_61 : decode b_Reader_scan 61 = .ok (.putfield 82, 3) := by decide +kernel
theorem d_Reader_scan_64 : decode b_Reader_scan 64 = .ok (.goto 77, 3) := by decide +kernel
theorem d_Reader_scan_67 : decode b_Reader_scan 67 = .ok (.aload_n 0, 1) := by decide +kernel
theorem d_Reader_scan_68 : decode b_Reader_scan 68 = .ok (.getfield 9, 3) := by decide +kernel
theorem d_Reader_scan_71 : decode b_Reader_scan 71 = .ok (.iload_n 1, 1) := by decide +kernel
theorem d_Reader_scan_72 : decode b_Reader_scan 72 = .ok (.baload, 1) := by decide +kernel
theorem d_Reader_scan_73 : decode b_Reader_scan 73 = .ok (.invokestatic 100, 3) := by decide +kernel
theorem d_Reader_scan_76 : decode b_Reader_scan 76 = .ok (.ifCond .eq 10, 3) := by decide +kernel
theorem d_Reader_scan_79 : decode b_Reader_scan 79 = .ok (.aload_n 0, 1) := by decide +kernel
theorem d_Reader_scan_80 : decode b_Reader_scan 80 = .ok (.invokevirtual 103, 3) := by decide +kernel
theorem d_Reader_scan_83 : decode b_Reader_scan 83 = .ok (.goto 58, 3) := by decide +kernel
theorem d_Reader_scan_86 : decode b_Reader_scan 86 = .ok (.aload_n 0, 1) := by decide +kernel
theorem d_Reader_scan_87 : decode b_Reader_scan 87 = .ok (.getfield 9, 3) := by decide +kernel
theorem d_Reader_scan_90 : decode b_Reader_scan 90 = .ok (.iload_n 1, 1) := by decide +kernel
theorem d_Reader_scan_91 : decode b_Reader_scan 91 = .ok (.baload, 1) := by decide +kernel
theorem d_Reader_scan_92 : decode b_Reader_scan 92 = .ok (.invokestatic 106, 3) := by decide +kernel
theorem d_Reader_scan_95 : decode b_Reader_scan 95 = .ok (.ifCond .eq 10, 3) := by decide +kernel
theorem d_Reader_scan_98 : decode b_Reader_scan 98 = .ok (.aload_n 0, 1) := by decide +kernel
theorem d_Reader_scan_99 : decode b_Reader_scan 99 = .ok (.invokevirtual 109, 3) := by decide +kernel
theorem d_Reader_scan_102 : decode b_Reader_scan 102 = .ok (.goto 39, 3) := by decide +kernel
theorem d_Reader_scan_105 : decode b_Reader_scan 105 = .ok (.aload_n 0, 1) := by decide +kernel
theorem d_Reader_scan_106 : decode b_Reader_scan 106 = .ok (.aload_n 0, 1) := by decide +kernel
theorem d_Reader_scan_107 : decode b_Reader_scan 107 = .ok (.getfield 9, 3) := by decide +kernel
theorem d_Reader_scan_110 : decode b_Reader_scan 110 = .ok (.iload_n 1, 1) := by decide +kernel
theorem d_Reader_scan_111 : decode b_Reader_scan 111 = .ok (.baload, 1) := by decide +kernel
theorem d_Reader_scan_112 : decode b_Reader_scan 112 = .ok (.invokestatic 112, 3) := by decide +kernel
theorem d_Reader_scan_115 : decode b_Reader_scan 115 = .ok (.ifCond .eq 12, 3) := by decide +kernel
theorem d_Reader_scan_118 : decode b_Reader_scan 118 = .ok (.aload_n 0, 1) := by decide +kernel
theorem d_Reader_scan_119 : decode b_Reader_scan 119 = .ok (.getfield 9, 3) := by decide +kernel
theorem d_Reader_scan_122 : decode b_Reader_scan 122 = .ok (.iload_n 1, 1) := by decide +kernel
theorem d_Reader_scan_123 : decode b_Reader_scan 123 = .ok (.baload, 1) := by decide +kernel
theorem d_Reader_scan_124 : decode b_Reader_scan 124 = .ok (.goto 4, 3) := by decide +kernel
theorem d_Reader_scan_127 : decode b_Reader_scan 127 = .ok (.iconst 1, 1) := by decide +kernel
theorem d_Reader_scan_128 : decode b_Reader_scan 128 = .ok (.putfield 82, 3) := by decide +kernel
theorem d_Reader_scan_131 : decode b_Reader_scan 131 = .ok (.aload_n 0, 1) := by decide +kernel
theorem d_Reader_scan_132 : decode b_Reader_scan 132 = .ok (.dup, 1) := by decide +kernel
theorem d_Reader_scan_133 : decode b_Reader_scan 133 = .ok (.getfield 29, 3) := by decide +kernel
theorem d_Reader_scan_136 : decode b_Reader_scan 136 = .ok (.iconst 1, 1) := by decide +kernel
theorem d_Reader_scan_137 : decode b_Reader_scan 137 = .ok (.iadd, 1) := by decide +kernel
theorem d_Reader_scan_138 : decode b_Reader_scan 138 = .ok (.putfield 29, 3) := by decide +kernel
theorem d_Reader_scan_141 : decode b_Reader_scan 141 = .ok (.return_, 1) := by decide +kernel
theorem v_Reader_scan : dk_Yv y_Reader_scan b_Reader_scan 2 (none) 0 := ⟨dk_in (List.mem_of_getElem? (i := 491) (by decide +kernel)) rfl, dk_in (List.mem_of_getElem? (i := 0) (by decide +kernel)) rfl, dk_in (List.mem_of_getElem? (i := 69) (by decide +kernel)) rfl, dk_in (List.mem_of_getElem? (i := 492) (by decide +kernel)) rfl, by decide +kernel, by decide +kernel, by decide +kernel⟩
abbrev rm_Reader_scan : Room := { frames := 6, cells := 0, slots := 0, locals := 132 }
theorem m_Reader_103 : Cond.methodLink R_Reader 103 y_Reader_scanWord ∈ dk_tb := dk_in (List.mem_of_getElem? (i := 496) (by decide +kernel)) rfl
theorem m_Reader_109 : Cond.methodLink R_Reader 109 y_Reader_scanNumber ∈ dk_tb := dk_in (List.mem_of_getElem? (i := 556) (by decide +kernel)) rfl
theorem m_Reader_112 : Cond.methodLink R_Reader 112 y_Reader_isSign ∈ dk_tb := dk_in (List.mem_of_getElem? (i := 560) (by decide +kernel)) rfl
def B_Reader_scan_35 (n T : Nat) (k5 : Int32 → dk_S → Option dk_S) (x1 : Int32) (S : dk_S) : Option dk_S :=
  k5 (x1 + (1 : Int32)) S
set_option maxRecDepth 20000 in
theorem kb_Reader_scan_35 {p : Program} {l : Launch} {e : Env} {s : State} {m : MethodId} {args : Array Value} {below : List Frame} {meth : Method} {c : Code} {g : dk_G} {A : Nat → Prop} {Q : State → Prop} {ad : Nat → Nat} {T : Nat} {n : Nat} {res : dk_S} (X : dk_X p s m args meth c b_Reader_scan 2 R_Reader (none) g A) (hR : dk_Rv p l e rm_Reader_scan s m args below meth c g A Q 2 b_Reader_scan (none) (wC g ad T) res) {k5 : Int32 → dk_S → Option dk_S} (hk5 : ∀ (x1 : Int32)  (S : dk_S), k5 x1 S = some res → dk_J p l e rm_Reader_scan s m args below meth c g A Q 2 0 0 5 [(0, .ref (ad 12)), (1, .int x1)] [] (wC g ad T S)) {x1 : Int32} {S : dk_S}  (hF : B_Reader_scan_35 n T k5 x1 S = some res) : dk_J p l e rm_Reader_scan s m args below meth c g A Q 2 0 0 35 [(0, .ref (ad 12)), (1, .int x1)] [] (wC g ad T S) := by
  unfold B_Reader_scan_35 at hF
  refine dk_iinc (i := 1) (v := (x1 + (1 : Int32))) (lv' := [(1, .int (x1 + (1 : Int32))), (0, .ref (ad 12))]) X 1 rfl (dk_ii _ (by decide)) (by decide) rfl d_Reader_scan_35 ?_
  refine dk_goto (tgt := 5) X (by decide) d_Reader_scan_38 ?_
  exact dk_sub [1, 0] rfl (hk5 (x1 + (1 : Int32)) S hF)
def B_Reader_scan_128 (n T : Nat)  (u1 : Int32) (S : dk_S) : Option dk_S :=
  dk_p S 109 u1 fun S1 => dk_p S1 112 ((S1 112 0) + (1 : Int32)) fun S2 => some S2
set_option maxRecDepth 20000 in
theorem kb_Reader_scan_128 {p : Program} {l : Launch} {e : Env} {s : State} {m : MethodId} {args : Array Value} {below : List Frame} {meth : Method} {c : Code} {g : dk_G} {A : Nat → Prop} {Q : State → Prop} {ad : Nat → Nat} {T : Nat} {n : Nat} {res : dk_S} (X : dk_X p s m args meth c b_Reader_scan 2 R_Reader (none) g A) (hR : dk_Rv p l e rm_Reader_scan s m args below meth c g A Q 2 b_Reader_scan (none) (wC g ad T) res)  {u1 : Int32} {S : dk_S}  (hF : B_Reader_scan_128 n T  u1 S = some res) : dk_J p l e rm_Reader_scan s m args below meth c g A Q 2 0 0 128 [(0, .ref (ad 12))] [.int u1, .ref (ad 12)] (wC g ad T S) := by
  unfold B_Reader_scan_128 at hF
  refine dk_puti X q_Reader 12 6 (by decide) (oC_Reader g ad T S) f_Reader_82 rfl rfl (Nat.le_of_ble_eq_true rfl) (sC_Reader_token g ad T S _) d_Reader_scan_128 hF (fun S1 hF => ?_)
  refine dk_aload_n (k := 0) (i := 0) X 0 rfl rfl d_Reader_scan_131 ?_
  refine dk_dup X rfl d_Reader_scan_132 ?_
  refine dk_get X q_Reader 12 9 (by decide) (oC_Reader g ad T S1) rfl f_Reader_29 d_Reader_scan_133 ?_
  refine dk_iconst (v := 1) X (by decide) d_Reader_scan_136 ?_
  refine dk_iadd X d_Reader_scan_137 ?_
  refine dk_puti X q_Reader 12 9 (by decide) (oC_Reader g ad T S1) f_Reader_29 rfl rfl (Nat.le_of_ble_eq_true rfl) (sC_Reader_next g ad T S1 _) d_Reader_scan_138 hF (fun S2 hF => ?_)
  exact dk_retv hR hF d_Reader_scan_141
def B_Reader_scan_41 (n T : Nat)  (x1 : Int32) (S : dk_S) : Option dk_S :=
  dk_p S 110 x1 fun S3 => dk_p S3 112 x1 fun S4 => if x1 < (S4 105 0) then (dk_r 160 (S4 13) x1 fun v5 => dk_c (F_Reader_isLetter n T v5 S4) fun r7 S6 => if r7 = 0 then (dk_r 160 (S6 13) x1 fun v8 => dk_c (F_Reader_isDigit n T v8 S6) fun r10 S9 => if r10 = 0 then (dk_r 160 (S9 13) x1 fun v11 => dk_c (F_Reader_isSign n T v11 S9) fun r13 S12 => if r13 = 0 then (B_Reader_scan_128 n T  (1 : Int32) S12) else (dk_r 160 (S12 13) x1 fun v14 => B_Reader_scan_128 n T  v14 S12)) else (dk_cv (F_Reader_scanNumber n T S9) fun S15 => some S15)) else (dk_cv (F_Reader_scanWord n T S6) fun S17 => some S17)) else (dk_p S4 109 (0 : Int32) fun S19 => some S19)
set_option maxRecDepth 20000 in
theorem kb_Reader_scan_41 {p : Program} {l : Launch} {e : Env} {s : State} {m : MethodId} {args : Array Value} {below : List Frame} {meth : Method} {c : Code} {g : dk_G} {A : Nat → Prop} {Q : State → Prop} {ad : Nat → Nat} {T : Nat} {n : Nat} {res : dk_S} (X : dk_X p s m args meth c b_Reader_scan 2 R_Reader (none) g A) (hR : dk_Rv p l e rm_Reader_scan s m args below meth c g A Q 2 b_Reader_scan (none) (wC g ad T) res)  {x1 : Int32} {S : dk_S}  (hF : B_Reader_scan_41 n T  x1 S = some res) : dk_J p l e rm_Reader_scan s m args below meth c g A Q 2 0 0 41 [(0, .ref (ad 12)), (1, .int x1)] [] (wC g ad T S) := by
  unfold B_Reader_scan_41 at hF
  refine dk_aload_n (k := 0) (i := 0) X 0 rfl rfl d_Reader_scan_41 ?_
  refine dk_iload_n (k := 1) (i := 1) X 1 rfl rfl d_Reader_scan_42 ?_
  refine dk_puti X q_Reader 12 7 (by decide) (oC_Reader g ad T S) f_Reader_97 rfl rfl (Nat.le_of_ble_eq_true rfl) (sC_Reader_tokenPlace g ad T S _) d_Reader_scan_43 hF (fun S3 hF => ?_)
  refine dk_aload_n (k := 0) (i := 0) X 0 rfl rfl d_Reader_scan_46 ?_
  refine dk_iload_n (k := 1) (i := 1) X 1 rfl rfl d_Reader_scan_47 ?_
  refine dk_puti X q_Reader 12 9 (by decide) (oC_Reader g ad T S3) f_Reader_29 rfl rfl (Nat.le_of_ble_eq_true rfl) (sC_Reader_next g ad T S3 _) d_Reader_scan_48 hF (fun S4 hF => ?_)
  refine dk_iload_n (k := 1) (i := 1) X 1 rfl rfl d_Reader_scan_51 ?_
  refine dk_aload_n (k := 0) (i := 0) X 0 rfl rfl d_Reader_scan_52 ?_
  refine dk_get X q_Reader 12 1 (by decide) (oC_Reader g ad T S4) rfl f_Reader_19 d_Reader_scan_53 ?_
  refine dk_icmp_lt (tgt := 67) X (by decide) d_Reader_scan_56 hF (fun hF => ?_) (fun hF => ?_)
  · refine dk_aload_n (k := 0) (i := 0) X 0 rfl rfl d_Reader_scan_67 ?_
    refine dk_get X q_Reader 12 0 (by decide) (oC_Reader g ad T S4) rfl f_Reader_9 d_Reader_scan_68 ?_
    refine dk_iload_n (k := 1) (i := 1) X 1 rfl rfl d_Reader_scan_71 ?_
    refine dk_bald X 13 (aC_13 g ad T S4) d_Reader_scan_72 hF (fun v5 hF => ?_)
    refine dk_callSi X v_Reader_isLetter [.int v5] (c_Reader_isLetter l g ad T n v5 S4) m_Reader_100 rfl rfl ⟨rfl, rfl, Nat.le_of_ble_eq_true rfl, Nat.le_of_ble_eq_true rfl, Nat.le_refl _, Nat.le_refl _⟩ (Nat.le_of_ble_eq_true rfl) d_Reader_scan_73 hF (fun r7 S6 hF => ?_)
    refine dk_if_eq (tgt := 86) X (by decide) d_Reader_scan_76 hF (fun hF => ?_) (fun hF => ?_)
    · refine dk_aload_n (k := 0) (i := 0) X 0 rfl rfl d_Reader_scan_86 ?_
      refine dk_get X q_Reader 12 0 (by decide) (oC_Reader g ad T S6) rfl f_Reader_9 d_Reader_scan_87 ?_
      refine dk_iload_n (k := 1) (i := 1) X 1 rfl rfl d_Reader_scan_90 ?_
      refine dk_bald X 13 (aC_13 g ad T S6) d_Reader_scan_91 hF (fun v8 hF => ?_)
      refine dk_callSi X v_Reader_isDigit [.int v8] (c_Reader_isDigit l g ad T n v8 S6) m_Reader_106 rfl rfl ⟨rfl, rfl, Nat.le_of_ble_eq_true rfl, Nat.le_of_ble_eq_true rfl, Nat.le_refl _, Nat.le_refl _⟩ (Nat.le_of_ble_eq_true rfl) d_Reader_scan_92 hF (fun r10 S9 hF => ?_)
      refine dk_if_eq (tgt := 105) X (by decide) d_Reader_scan_95 hF (fun hF => ?_) (fun hF => ?_)
      · refine dk_aload_n (k := 0) (i := 0) X 0 rfl rfl d_Reader_scan_105 ?_
        refine dk_aload_n (k := 0) (i := 0) X 0 rfl rfl d_Reader_scan_106 ?_
        refine dk_get X q_Reader 12 0 (by decide) (oC_Reader g ad T S9) rfl f_Reader_9 d_Reader_scan_107 ?_
        refine dk_iload_n (k := 1) (i := 1) X 1 rfl rfl d_Reader_scan_110 ?_
        refine dk_bald X 13 (aC_13 g ad T S9) d_Reader_scan_111 hF (fun v11 hF => ?_)
        refine dk_callSi X v_Reader_isSign [.int v11] (c_Reader_isSign l g ad T n v11 S9) m_Reader_112 rfl rfl ⟨rfl, rfl, Nat.le_of_ble_eq_true rfl, Nat.le_of_ble_eq_true rfl, Nat.le_refl _, Nat.le_refl _⟩ (Nat.le_of_ble_eq_true rfl) d_Reader_scan_112 hF (fun r13 S12 hF => ?_)
        refine dk_if_eq (tgt := 127) X (by decide) d_Reader_scan_115 hF (fun hF => ?_) (fun hF => ?_)
        · refine dk_iconst (v := 1) X (by decide) d_Reader_scan_127 ?_
          exact dk_sub [0] rfl (kb_Reader_scan_128 (n := n) X hR   hF)
        · refine dk_aload_n (k := 0) (i := 0) X 0 rfl rfl d_Reader_scan_118 ?_
          refine dk_get X q_Reader 12 0 (by decide) (oC_Reader g ad T S12) rfl f_Reader_9 d_Reader_scan_119 ?_
          refine dk_iload_n (k := 1) (i := 1) X 1 rfl rfl d_Reader_scan_122 ?_
          refine dk_bald X 13 (aC_13 g ad T S12) d_Reader_scan_123 hF (fun v14 hF => ?_)
          refine dk_goto (tgt := 128) X (by decide) d_Reader_scan_124 ?_
          exact dk_sub [0] rfl (kb_Reader_scan_128 (n := n) X hR   hF)
      · refine dk_aload_n (k := 0) (i := 0) X 0 rfl rfl d_Reader_scan_98 ?_
        refine dk_callVv X v_Reader_scanNumber [] (c_Reader_scanNumber l g ad T n S9) 12 (oC_Reader g ad T S9) rfl rfl m_Reader_109 rfl rfl ⟨rfl, rfl, Nat.le_of_ble_eq_true rfl, Nat.le_of_ble_eq_true rfl, Nat.le_refl _, Nat.le_refl _⟩ (Nat.le_of_ble_eq_true rfl) d_Reader_scan_99 hF (fun S15 hF => ?_)
        refine dk_goto (tgt := 141) X (by decide) d_Reader_scan_102 ?_
        exact dk_retv hR hF d_Reader_scan_141
    · refine dk_aload_n (k := 0) (i := 0) X 0 rfl rfl d_Reader_scan_79 ?_
      refine dk_callVv X v_Reader_scanWord [] (c_Reader_scanWord l g ad T n S6) 12 (oC_Reader g ad T S6) rfl rfl m_Reader_103 rfl rfl ⟨rfl, rfl, Nat.le_of_ble_eq_true rfl, Nat.le_of_ble_eq_true rfl, Nat.le_refl _, Nat.le_refl _⟩ (Nat.le_of_ble_eq_true rfl) d_Reader_scan_80 hF (fun S17 hF => ?_)
      refine dk_goto (tgt := 141) X (by decide) d_Reader_scan_83 ?_
      exact dk_retv hR hF d_Reader_scan_141
  · refine dk_aload_n (k := 0) (i := 0) X 0 rfl rfl d_Reader_scan_59 ?_
    refine dk_iconst (v := 0) X (by decide) d_Reader_scan_60 ?_
    refine dk_puti X q_Reader 12 6 (by decide) (oC_Reader g ad T S4) f_Reader_82 rfl rfl (Nat.le_of_ble_eq_true rfl) (sC_Reader_token g ad T S4 _) d_Reader_scan_61 hF (fun S19 hF => ?_)
    refine dk_goto (tgt := 141) X (by decide) d_Reader_scan_64 ?_
    exact dk_retv hR hF d_Reader_scan_141
def B_Reader_scan_5b (n T : Nat) (k5 : Int32 → dk_S → Option dk_S) (x1 : Int32) (S : dk_S) : Option dk_S :=
  if (S 105 0) ≤ x1 then (B_Reader_scan_41 n T  x1 S) else (dk_r 160 (S 13) x1 fun v20 => if v20 = (32 : Int32) then (B_Reader_scan_35 n T k5 x1 S) else (dk_r 160 (S 13) x1 fun v21 => if ¬ v21 = (10 : Int32) then (B_Reader_scan_41 n T  x1 S) else (B_Reader_scan_35 n T k5 x1 S)))
set_option maxRecDepth 20000 in
theorem kb_Reader_scan_5b {p : Program} {l : Launch} {e : Env} {s : State} {m : MethodId} {args : Array Value} {below : List Frame} {meth : Method} {c : Code} {g : dk_G} {A : Nat → Prop} {Q : State → Prop} {ad : Nat → Nat} {T : Nat} {n : Nat} {res : dk_S} (X : dk_X p s m args meth c b_Reader_scan 2 R_Reader (none) g A) (hR : dk_Rv p l e rm_Reader_scan s m args below meth c g A Q 2 b_Reader_scan (none) (wC g ad T) res) {k5 : Int32 → dk_S → Option dk_S} (hk5 : ∀ (x1 : Int32)  (S : dk_S), k5 x1 S = some res → dk_J p l e rm_Reader_scan s m args below meth c g A Q 2 0 0 5 [(0, .ref (ad 12)), (1, .int x1)] [] (wC g ad T S)) {x1 : Int32} {S : dk_S}  (hF : B_Reader_scan_5b n T k5 x1 S = some res) : dk_J p l e rm_Reader_scan s m args below meth c g A Q 2 0 0 5 [(0, .ref (ad 12)), (1, .int x1)] [] (wC g ad T S) := by
  unfold B_Reader_scan_5b at hF
  refine dk_iload_n (k := 1) (i := 1) X 1 rfl rfl d_Reader_scan_5 ?_
  refine dk_aload_n (k := 0) (i := 0) X 0 rfl rfl d_Reader_scan_6 ?_
  refine dk_get X q_Reader 12 1 (by decide) (oC_Reader g ad T S) rfl f_Reader_19 d_Reader_scan_7 ?_
  refine dk_icmp_ge (tgt := 41) X (by decide) d_Reader_scan_10 hF (fun hF => ?_) (fun hF => ?_)
  · exact (kb_Reader_scan_41 (n := n) X hR   hF)
  · refine dk_aload_n (k := 0) (i := 0) X 0 rfl rfl d_Reader_scan_13 ?_
    refine dk_get X q_Reader 12 0 (by decide) (oC_Reader g ad T S) rfl f_Reader_9 d_Reader_scan_14 ?_
    refine dk_iload_n (k := 1) (i := 1) X 1 rfl rfl d_Reader_scan_17 ?_
    refine dk_bald X 13 (aC_13 g ad T S) d_Reader_scan_18 hF (fun v20 hF => ?_)
    refine dk_bipush (v := 32) X (by decide) d_Reader_scan_19 ?_
    refine dk_icmp_eq (tgt := 35) X (by decide) d_Reader_scan_21 hF (fun hF => ?_) (fun hF => ?_)
    · exact (kb_Reader_scan_35 (n := n) X hR hk5  hF)
    · refine dk_aload_n (k := 0) (i := 0) X 0 rfl rfl d_Reader_scan_24 ?_
      refine dk_get X q_Reader 12 0 (by decide) (oC_Reader g ad T S) rfl f_Reader_9 d_Reader_scan_25 ?_
      refine dk_iload_n (k := 1) (i := 1) X 1 rfl rfl d_Reader_scan_28 ?_
      refine dk_bald X 13 (aC_13 g ad T S) d_Reader_scan_29 hF (fun v21 hF => ?_)
      refine dk_bipush (v := 10) X (by decide) d_Reader_scan_30 ?_
      refine dk_icmp_ne (tgt := 41) X (by decide) d_Reader_scan_32 hF (fun hF => ?_) (fun hF => ?_)
      · exact (kb_Reader_scan_41 (n := n) X hR   hF)
      · exact (kb_Reader_scan_35 (n := n) X hR hk5  hF)
def B_Reader_scan_5 (n T : Nat)  : Nat → Int32 → dk_S → Option dk_S
  | 0 => fun _ _ => none
  | q + 1 => fun x1 S => B_Reader_scan_5b n T (fun x1 S => B_Reader_scan_5 n T  q x1 S) x1 S
theorem kb_Reader_scan_5 {p : Program} {l : Launch} {e : Env} {s : State} {m : MethodId} {args : Array Value} {below : List Frame} {meth : Method} {c : Code} {g : dk_G} {A : Nat → Prop} {Q : State → Prop} {ad : Nat → Nat} {T : Nat} {n : Nat} {res : dk_S} (X : dk_X p s m args meth c b_Reader_scan 2 R_Reader (none) g A) (hR : dk_Rv p l e rm_Reader_scan s m args below meth c g A Q 2 b_Reader_scan (none) (wC g ad T) res)  : ∀ (q : Nat) (x1 : Int32)  (S : dk_S), B_Reader_scan_5 n T  q x1 S = some res → dk_J p l e rm_Reader_scan s m args below meth c g A Q 2 0 0 5 [(0, .ref (ad 12)), (1, .int x1)] [] (wC g ad T S) := by
  intro q
  induction q with
  | zero => intro x1  S hF; cases hF
  | succ q ih => intro x1  S hF; exact kb_Reader_scan_5b (n := n) X hR ih  hF
def B_Reader_scan_0 (n T : Nat)   (S : dk_S) : Option dk_S :=
  B_Reader_scan_5 n T  n (S 112 0) S
set_option maxRecDepth 20000 in
theorem kb_Reader_scan_0 {p : Program} {l : Launch} {e : Env} {s : State} {m : MethodId} {args : Array Value} {below : List Frame} {meth : Method} {c : Code} {g : dk_G} {A : Nat → Prop} {Q : State → Prop} {ad : Nat → Nat} {T : Nat} {n : Nat} {res : dk_S} (X : dk_X p s m args meth c b_Reader_scan 2 R_Reader (none) g A) (hR : dk_Rv p l e rm_Reader_scan s m args below meth c g A Q 2 b_Reader_scan (none) (wC g ad T) res)   {S : dk_S}  (hF : B_Reader_scan_0 n T   S = some res) : dk_J p l e rm_Reader_scan s m args below meth c g A Q 2 0 0 0 [(0, .ref (ad 12))] [] (wC g ad T S) := by
  unfold B_Reader_scan_0 at hF
  refine dk_aload_n (k := 0) (i := 0) X 0 rfl rfl d_Reader_scan_0 ?_
  refine dk_get X q_Reader 12 9 (by decide) (oC_Reader g ad T S) rfl f_Reader_29 d_Reader_scan_1 ?_
  refine dk_istore_n (k := 1) (i := 1) (lv' := [(1, .int (S 112 0)), (0, .ref (ad 12))]) X rfl (by decide) rfl d_Reader_scan_4 ?_
  exact dk_sub [1, 0] rfl (kb_Reader_scan_5 (n := n) X hR  n (S 112 0) S hF)
def F_Reader_scan (n T : Nat)  (S : dk_S) : Option dk_S := B_Reader_scan_0 n T  S
theorem c_Reader_scan (l : Launch) (g : dk_G) (ad : Nat → Nat) (T n : Nat)   (S : dk_S) : dk_Mv l g y_Reader_scan b_Reader_scan 2 rm_Reader_scan (none) [.ref (ad 12)] (wC g ad T) S (F_Reader_scan n T  S) := dk_enterv (by decide) rfl (Nat.le_of_ble_eq_true rfl) (fun p e s m args below meth c A Q res hF X hR => (kb_Reader_scan_0 (n := n) X hR  hF))
abbrev b_Reader_expect : ByteArray := prog_5_method_14_code
def y_Reader_expect : MethodName := ⟨R_Reader, "expect", "(I)V"⟩
theorem d_Reader_expect_0 : decode b_Reader_expect 0 = .ok (.aload_n 0, 1) := by decide +kernel
theorem d_Reader_expect_1 : decode b_Reader_expect 1 = .ok (.iload_n 1, 1) := by decide +kernel
theorem d_Reader_expect_2 : decode b_Reader_expect 2 = .ok (.invokevirtual 62, 3) := by decide +kernel
theorem d_Reader_expect_5 : decode b_Reader_expect 5 = .ok (.ifCond .eq 10, 3) := by decide +kernel
theorem d_Reader_expect_8 : decode b_Reader_expect 8 = .ok (.aload_n 0, 1) := by decide +kernel
theorem d_Reader_expect_9 : decode b_Reader_expect 9 = .ok (.invokevirtual 35, 3) := by decide +kernel
theorem d_Reader_expect_12 : decode b_Reader_expect 12 = .ok (.goto 7, 3) := by decide +kernel
theorem d_Reader_expect_15 : decode b_Reader_expect 15 = .ok (.aload_n 0, 1) := by decide +kernel
theorem d_Reader_expect_16 : decode b_Reader_expect 16 = .ok (.invokevirtual 94, 3) := by decide +kernel
theorem d_Reader_expect_19 : decode b_Reader_expect 19 = .ok (.return_, 1) := by decide +kernel
theorem v_Reader_expect : dk_Yv y_Reader_expect b_Reader_expect 2 (none) 1 := ⟨dk_in (List.mem_of_getElem? (i := 565) (by decide +kernel)) rfl, dk_in (List.mem_of_getElem? (i := 4) (by decide +kernel)) rfl, dk_in (List.mem_of_getElem? (i := 69) (by decide +kernel)) rfl, dk_in (List.mem_of_getElem? (i := 566) (by decide +kernel)) rfl, by decide +kernel, by decide +kernel, by decide +kernel⟩
abbrev rm_Reader_expect : Room := { frames := 7, cells := 0, slots := 0, locals := 153 }
theorem m_Reader_35 : Cond.methodLink R_Reader 35 y_Reader_scan ∈ dk_tb := dk_in (List.mem_of_getElem? (i := 489) (by decide +kernel)) rfl
theorem m_Reader_62 : Cond.methodLink R_Reader 62 y_Reader_sees ∈ dk_tb := dk_in (List.mem_of_getElem? (i := 567) (by decide +kernel)) rfl
theorem m_Reader_94 : Cond.methodLink R_Reader 94 y_Reader_fail ∈ dk_tb := dk_in (List.mem_of_getElem? (i := 571) (by decide +kernel)) rfl
def B_Reader_expect_0 (n T : Nat)  (x1 : Int32) (S : dk_S) : Option dk_S :=
  dk_c (F_Reader_sees n T x1 S) fun r2 S1 => if r2 = 0 then (dk_cv (F_Reader_fail n T S1) fun S3 => some S3) else (dk_cv (F_Reader_scan n T S1) fun S5 => some S5)
set_option maxRecDepth 20000 in
theorem kb_Reader_expect_0 {p : Program} {l : Launch} {e : Env} {s : State} {m : MethodId} {args : Array Value} {below : List Frame} {meth : Method} {c : Code} {g : dk_G} {A : Nat → Prop} {Q : State → Prop} {ad : Nat → Nat} {T : Nat} {n : Nat} {res : dk_S} (X : dk_X p s m args meth c b_Reader_expect 2 R_Reader (none) g A) (hR : dk_Rv p l e rm_Reader_expect s m args below meth c g A Q 2 b_Reader_expect (none) (wC g ad T) res)  {x1 : Int32} {S : dk_S}  (hF : B_Reader_expect_0 n T  x1 S = some res) : dk_J p l e rm_Reader_expect s m args below meth c g A Q 2 0 0 0 [(0, .ref (ad 12)), (1, .int x1)] [] (wC g ad T S) := by
  unfold B_Reader_expect_0 at hF
  refine dk_aload_n (k := 0) (i := 0) X 0 rfl rfl d_Reader_expect_0 ?_
  refine dk_iload_n (k := 1) (i := 1) X 1 rfl rfl d_Reader_expect_1 ?_
  refine dk_callVi X v_Reader_sees [.int x1] (c_Reader_sees l g ad T n x1 S) 12 (oC_Reader g ad T S) rfl rfl m_Reader_62 rfl rfl ⟨rfl, rfl, Nat.le_of_ble_eq_true rfl, Nat.le_of_ble_eq_true rfl, Nat.le_refl _, Nat.le_refl _⟩ (Nat.le_of_ble_eq_true rfl) d_Reader_expect_2 hF (fun r2 S1 hF => ?_)
  refine dk_if_eq (tgt := 15) X (by decide) d_Reader_expect_5 hF (fun hF => ?_) (fun hF => ?_)
  · refine dk_aload_n (k := 0) (i := 0) X 0 rfl rfl d_Reader_expect_15 ?_
    refine dk_callVv X v_Reader_fail [] (c_Reader_fail l g ad T n S1) 12 (oC_Reader g ad T S1) rfl rfl m_Reader_94 rfl rfl ⟨rfl, rfl, Nat.le_of_ble_eq_true rfl, Nat.le_of_ble_eq_true rfl, Nat.le_refl _, Nat.le_refl _⟩ (Nat.le_of_ble_eq_true rfl) d_Reader_expect_16 hF (fun S3 hF => ?_)
    exact dk_retv hR hF d_Reader_expect_19
  · refine dk_aload_n (k := 0) (i := 0) X 0 rfl rfl d_Reader_expect_8 ?_
    refine dk_callVv X v_Reader_scan [] (c_Reader_scan l g ad T n S1) 12 (oC_Reader g ad T S1) rfl rfl m_Reader_35 rfl rfl ⟨rfl, rfl, Nat.le_of_ble_eq_true rfl, Nat.le_of_ble_eq_true rfl, Nat.le_refl _, Nat.le_refl _⟩ (Nat.le_of_ble_eq_true rfl) d_Reader_expect_9 hF (fun S5 hF => ?_)
    refine dk_goto (tgt := 19) X (by decide) d_Reader_expect_12 ?_
    exact dk_retv hR hF d_Reader_expect_19
def F_Reader_expect (n T : Nat) (x1 : Int32) (S : dk_S) : Option dk_S := B_Reader_expect_0 n T x1 S
theorem c_Reader_expect (l : Launch) (g : dk_G) (ad : Nat → Nat) (T n : Nat) (x1 : Int32)  (S : dk_S) : dk_Mv l g y_Reader_expect b_Reader_expect 2 rm_Reader_expect (none) [.ref (ad 12), .int x1] (wC g ad T) S (F_Reader_expect n T x1 S) := dk_enterv (by decide) rfl (Nat.le_of_ble_eq_true rfl) (fun p e s m args below meth c A Q res hF X hR => (kb_Reader_expect_0 (n := n) X hR  hF))
abbrev b_Reader_opens : ByteArray := prog_5_method_12_code
def y_Reader_opens : MethodName := ⟨R_Reader, "opens", "()Z"⟩
theorem d_Reader_opens_0 : decode b_Reader_opens 0 = .ok (.aload_n 0, 1) := by decide +kernel
theorem d_Reader_opens_1 : decode b_Reader_opens 1 = .ok (.getfield 32, 3) := by decide +kernel
theorem d_Reader_opens_4 : decode b_Reader_opens 4 = .ok (.iconst 5, 1) := by decide +kernel
theorem d_Reader_opens_5 : decode b_Reader_opens 5 = .ok (.if_icmp .lt 9, 3) := by decide +kernel
theorem d_Reader_opens_8 : decode b_Reader_opens 8 = .ok (.aload_n 0, 1) := by decide +kernel
theorem d_Reader_opens_9 : decode b_Reader_opens 9 = .ok (.invokevirtual 94, 3) := by decide +kernel
theorem d_Reader_opens_12 : decode b_Reader_opens 12 = .ok (.iconst 0, 1) := by decide +kernel
theorem d_Reader_opens_13 : decode b_Reader_opens 13 = .ok (.ireturn, 1) := by decide +kernel
theorem d_Reader_opens_14 : decode b_Reader_opens 14 = .ok (.aload_n 0, 1) := by decide +kernel
theorem d_Reader_opens_15 : decode b_Reader_opens 15 = .ok (.dup, 1) := by decide +kernel
theorem d_Reader_opens_16 : decode b_Reader_opens 16 = .ok (.getfield 32, 3) := by decide +kernel
theorem d_Reader_opens_19 : decode b_Reader_opens 19 = .ok (.iconst 1, 1) := by decide +kernel
theorem d_Reader_opens_20 : decode b_Reader_opens 20 = .ok (.iadd, 1) := by decide +kernel
theorem d_Reader_opens_21 : decode b_Reader_opens 21 = .ok (.putfield 32, 3) := by decide +kernel
theorem d_Reader_opens_24 : decode b_Reader_opens 24 = .ok (.aload_n 0, 1) := by decide +kernel
theorem d_Reader_opens_25 : decode b_Reader_opens 25 = .ok (.invokevirtual 35, 3) := by decide +kernel
theorem d_Reader_opens_28 : decode b_Reader_opens 28 = .ok (.iconst 1, 1) := by decide +kernel
theorem d_Reader_opens_29 : decode b_Reader_opens 29 = .ok (.ireturn, 1) := by decide +kernel
theorem v_Reader_opens : dk_Yv y_Reader_opens b_Reader_opens 1 (some .boolean) 0 := ⟨dk_in (List.mem_of_getElem? (i := 609) (by decide +kernel)) rfl, dk_in (List.mem_of_getElem? (i := 15) (by decide +kernel)) rfl, dk_in (List.mem_of_getElem? (i := 69) (by decide +kernel)) rfl, dk_in (List.mem_of_getElem? (i := 610) (by decide +kernel)) rfl, by decide +kernel, by decide +kernel, by decide +kernel⟩
abbrev rm_Reader_opens : Room := { frames := 7, cells := 0, slots := 0, locals := 153 }
theorem f_Reader_32 : Cond.fieldLink R_Reader 32 (T_Reader 10).1 (T_Reader 10).2.1 (T_Reader 10).2.2.1 ∈ dk_tb := dk_in (List.mem_of_getElem? (i := 186) (by decide +kernel)) rfl
def B_Reader_opens_0 (n T : Nat)   (S : dk_S) : Option (Int32 × dk_S) :=
  if (S 113 0) < (5 : Int32) then (dk_p S 113 ((S 113 0) + (1 : Int32)) fun S1 => dk_cv (F_Reader_scan n T S1) fun S2 => dk_b (1 : Int32) (some ((1 : Int32), S2))) else (dk_cv (F_Reader_fail n T S) fun S4 => dk_b (0 : Int32) (some ((0 : Int32), S4)))
set_option maxRecDepth 20000 in
theorem kb_Reader_opens_0 {p : Program} {l : Launch} {e : Env} {s : State} {m : MethodId} {args : Array Value} {below : List Frame} {meth : Method} {c : Code} {g : dk_G} {A : Nat → Prop} {Q : State → Prop} {ad : Nat → Nat} {T : Nat} {n : Nat} {res : (Int32 × dk_S)} (X : dk_X p s m args meth c b_Reader_opens 1 R_Reader (some .boolean) g A) (hR : dk_Ri p l e rm_Reader_opens s m args below meth c g A Q 1 b_Reader_opens (some .boolean) (wC g ad T) res)   {S : dk_S}  (hF : B_Reader_opens_0 n T   S = some res) : dk_J p l e rm_Reader_opens s m args below meth c g A Q 1 0 0 0 [(0, .ref (ad 12))] [] (wC g ad T S) := by
  unfold B_Reader_opens_0 at hF
  refine dk_aload_n (k := 0) (i := 0) X 0 rfl rfl d_Reader_opens_0 ?_
  refine dk_get X q_Reader 12 10 (by decide) (oC_Reader g ad T S) rfl f_Reader_32 d_Reader_opens_1 ?_
  refine dk_iconst (v := 5) X (by decide) d_Reader_opens_4 ?_
  refine dk_icmp_lt (tgt := 14) X (by decide) d_Reader_opens_5 hF (fun hF => ?_) (fun hF => ?_)
  · refine dk_aload_n (k := 0) (i := 0) X 0 rfl rfl d_Reader_opens_14 ?_
    refine dk_dup X rfl d_Reader_opens_15 ?_
    refine dk_get X q_Reader 12 10 (by decide) (oC_Reader g ad T S) rfl f_Reader_32 d_Reader_opens_16 ?_
    refine dk_iconst (v := 1) X (by decide) d_Reader_opens_19 ?_
    refine dk_iadd X d_Reader_opens_20 ?_
    refine dk_puti X q_Reader 12 10 (by decide) (oC_Reader g ad T S) f_Reader_32 rfl rfl (Nat.le_of_ble_eq_true rfl) (sC_Reader_open g ad T S _) d_Reader_opens_21 hF (fun S1 hF => ?_)
    refine dk_aload_n (k := 0) (i := 0) X 0 rfl rfl d_Reader_opens_24 ?_
    refine dk_callVv X v_Reader_scan [] (c_Reader_scan l g ad T n S1) 12 (oC_Reader g ad T S1) rfl rfl m_Reader_35 rfl rfl ⟨rfl, rfl, Nat.le_of_ble_eq_true rfl, Nat.le_of_ble_eq_true rfl, Nat.le_refl _, Nat.le_refl _⟩ (Nat.le_of_ble_eq_true rfl) d_Reader_opens_25 hF (fun S2 hF => ?_)
    refine dk_iconst (v := 1) X (by decide) d_Reader_opens_28 ?_
    exact dk_retz hR hF d_Reader_opens_29
  · refine dk_aload_n (k := 0) (i := 0) X 0 rfl rfl d_Reader_opens_8 ?_
    refine dk_callVv X v_Reader_fail [] (c_Reader_fail l g ad T n S) 12 (oC_Reader g ad T S) rfl rfl m_Reader_94 rfl rfl ⟨rfl, rfl, Nat.le_of_ble_eq_true rfl, Nat.le_of_ble_eq_true rfl, Nat.le_refl _, Nat.le_refl _⟩ (Nat.le_of_ble_eq_true rfl) d_Reader_opens_9 hF (fun S4 hF => ?_)
    refine dk_iconst (v := 0) X (by decide) d_Reader_opens_12 ?_
    exact dk_retz hR hF d_Reader_opens_13
def F_Reader_opens (n T : Nat)  (S : dk_S) : Option (Int32 × dk_S) := B_Reader_opens_0 n T  S
theorem c_Reader_opens (l : Launch) (g : dk_G) (ad : Nat → Nat) (T n : Nat)   (S : dk_S) : dk_Mi l g y_Reader_opens b_Reader_opens 1 rm_Reader_opens (some .boolean) [.ref (ad 12)] (wC g ad T) S (F_Reader_opens n T  S) := dk_enteri (by decide) (Nat.le_of_ble_eq_true rfl) (fun p e s m args below meth c A Q res hF X hR => (kb_Reader_opens_0 (n := n) X hR  hF))
abbrev b_Hare_feed : ByteArray := prog_1_method_9_code
def y_Hare_feed : MethodName := ⟨R_Hare, "feed", "(JI)I"⟩
theorem d_Hare_feed_0 : decode b_Hare_feed 0 = .ok (.iload_n 3, 1) := by decide +kernel
theorem d_Hare_feed_1 : decode b_Hare_feed 1 = .ok (.iconst 1, 1) := by decide +kernel
theorem d_Hare_feed_2 : decode b_Hare_feed 2 = .ok (.if_icmp .lt 9, 3) := by decide +kernel
theorem d_Hare_feed_5 : decode b_Hare_feed 5 = .ok (.iload_n 3, 1) := by decide +kernel
theorem d_Hare_feed_6 : decode b_Hare_feed 6 = .ok (.bipush 8, 2) := by decide +kernel
theorem d_Hare_feed_8 : decode b_Hare_feed 8 = .ok (.if_icmp .le 6, 3) := by decide +kernel
theorem d_Hare_feed_11 : decode b_Hare_feed 11 = .ok (.bipush (-2), 2) := by decide +kernel
theorem d_Hare_feed_13 : decode b_Hare_feed 13 = .ok (.ireturn, 1) := by decide +kernel
theorem d_Hare_feed_14 : decode b_Hare_feed 14 = .ok (.aload_n 0, 1) := by decide +kernel
theorem d_Hare_feed_15 : decode b_Hare_feed 15 = .ok (.getfield 26, 3) := by decide +kernel
theorem d_Hare_feed_18 : decode b_Hare_feed 18 = .ok (.lload_n 1, 1) := by decide +kernel
theorem d_Hare_feed_19 : decode b_Hare_feed 19 = .ok (.iload_n 3, 1) := by decide +kernel
theorem d_Hare_feed_20 : decode b_Hare_feed 20 = .ok (.invokevirtual 138, 3) := by decide +kernel
theorem d_Hare_feed_23 : decode b_Hare_feed 23 = .ok (.ireturn, 1) := by decide +kernel
theorem v_Hare_feed : dk_Yv y_Hare_feed b_Hare_feed 4 (some .int) 2 := ⟨dk_in (List.mem_of_getElem? (i := 474) (by decide +kernel)) rfl, dk_in (List.mem_of_getElem? (i := 475) (by decide +kernel)) rfl, dk_in (List.mem_of_getElem? (i := 66) (by decide +kernel)) rfl, dk_in (List.mem_of_getElem? (i := 476) (by decide +kernel)) rfl, by decide +kernel, by decide +kernel, by decide +kernel⟩
abbrev rm_Hare_feed : Room := { frames := 1, cells := 0, slots := 0, locals := 24 }
theorem m_Hare_138 : Cond.methodLink R_Hare 138 y_Reader_append ∈ dk_tb := dk_in (List.mem_of_getElem? (i := 477) (by decide +kernel)) rfl
def B_Hare_feed_0 (n T : Nat)  (x1 : Int64) (x3 : Int32) (S : dk_S) : Option (Int32 × dk_S) :=
  if x3 < (1 : Int32) then (some ((-2 : Int32), S)) else (if x3 ≤ (8 : Int32) then (dk_c (F_Reader_append n T x1 x3 S) fun r2 S1 => some (r2, S1)) else (some ((-2 : Int32), S)))
set_option maxRecDepth 20000 in
theorem kb_Hare_feed_0 {p : Program} {l : Launch} {e : Env} {s : State} {m : MethodId} {args : Array Value} {below : List Frame} {meth : Method} {c : Code} {g : dk_G} {A : Nat → Prop} {Q : State → Prop} {ad : Nat → Nat} {T : Nat} {n : Nat} {res : (Int32 × dk_S)} (X : dk_X p s m args meth c b_Hare_feed 4 R_Hare (some .int) g A) (hR : dk_Ri p l e rm_Hare_feed s m args below meth c g A Q 4 b_Hare_feed (some .int) (wC g ad T) res)  {x1 : Int64} {x3 : Int32} {S : dk_S}  (hF : B_Hare_feed_0 n T  x1 x3 S = some res) : dk_J p l e rm_Hare_feed s m args below meth c g A Q 4 0 0 0 [(0, .ref (ad 0)), (1, .long x1), (3, .int x3)] [] (wC g ad T S) := by
  unfold B_Hare_feed_0 at hF
  refine dk_iload_n (k := 3) (i := 3) X 2 rfl rfl d_Hare_feed_0 ?_
  refine dk_iconst (v := 1) X (by decide) d_Hare_feed_1 ?_
  refine dk_icmp_lt (tgt := 11) X (by decide) d_Hare_feed_2 hF (fun hF => ?_) (fun hF => ?_)
  · refine dk_bipush (v := -2) X (by decide) d_Hare_feed_11 ?_
    exact dk_reti hR hF d_Hare_feed_13
  · refine dk_iload_n (k := 3) (i := 3) X 2 rfl rfl d_Hare_feed_5 ?_
    refine dk_bipush (v := 8) X (by decide) d_Hare_feed_6 ?_
    refine dk_icmp_le (tgt := 14) X (by decide) d_Hare_feed_8 hF (fun hF => ?_) (fun hF => ?_)
    · refine dk_aload_n (k := 0) (i := 0) X 0 rfl rfl d_Hare_feed_14 ?_
      refine dk_get X q_Hare 0 2 (by decide) (oC_Hare g ad T S) rfl f_Hare_26 d_Hare_feed_15 ?_
      refine dk_lload_n (k := 1) (i := 1) X 1 rfl rfl d_Hare_feed_18 ?_
      refine dk_iload_n (k := 3) (i := 3) X 2 rfl rfl d_Hare_feed_19 ?_
      refine dk_callVi X v_Reader_append [.long x1, .int x3] (c_Reader_append l g ad T n x1 x3 S) 12 (oC_Reader g ad T S) rfl rfl m_Hare_138 rfl rfl ⟨rfl, rfl, Nat.le_of_ble_eq_true rfl, Nat.le_of_ble_eq_true rfl, Nat.le_refl _, Nat.le_refl _⟩ (Nat.le_of_ble_eq_true rfl) d_Hare_feed_20 hF (fun r2 S1 hF => ?_)
      exact dk_reti hR hF d_Hare_feed_23
    · refine dk_bipush (v := -2) X (by decide) d_Hare_feed_11 ?_
      exact dk_reti hR hF d_Hare_feed_13
def F_Hare_feed (n T : Nat) (x1 : Int64) (x3 : Int32) (S : dk_S) : Option (Int32 × dk_S) := B_Hare_feed_0 n T x1 x3 S
theorem c_Hare_feed (l : Launch) (g : dk_G) (ad : Nat → Nat) (T n : Nat) (x1 : Int64) (x3 : Int32)  (S : dk_S) : dk_Mi l g y_Hare_feed b_Hare_feed 4 rm_Hare_feed (some .int) [.ref (ad 0), .long x1, .int x3] (wC g ad T) S (F_Hare_feed n T x1 x3 S) := dk_enteri (by decide) (Nat.le_of_ble_eq_true rfl) (fun p e s m args below meth c A Q res hF X hR => (kb_Hare_feed_0 (n := n) X hR  hF))
