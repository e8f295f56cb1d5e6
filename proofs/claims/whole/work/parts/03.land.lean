theorem dk_ii (x : Int32) {n : Int} {v : Int32} (h : Int32.ofInt n = v) : x + Int32.ofInt n = x + v := by rw [h]
/-- the text in use -/
def dk_t {β : Type} (T : Nat) (S : dk_S) (k : Nat → Option β) : Option β := if (S 114 0).toNatClampNeg < T then k (S 114 0).toNatClampNeg else none
theorem dk_t_out {β : Type} {T : Nat} {S : dk_S} {k : Nat → Option β} {res : β} (h : dk_t T S k = some res) : ∃ t, t < T ∧ t = (S 114 0).toNatClampNeg ∧ k t = some res := by
  unfold dk_t at h; split at h
  · rename_i q; exact ⟨_, q, rfl, h⟩
  · cases h
def dk_sh {β : Type} (i : Int32) (k : Nat → Option β) : Option β := if i < 0 ∨ 4 ≤ i.toNatClampNeg then none else k i.toNatClampNeg
theorem dk_sh_out {β : Type} {i : Int32} {k : Nat → Option β} {res : β} (h : dk_sh i k = some res) : vp_in i 4 ∧ k i.toNatClampNeg = some res := by
  unfold dk_sh at h; split at h
  · cases h
  · rename_i q; exact ⟨q, h⟩

abbrev b_Land_hasGround : ByteArray := prog_4_method_2_code
def y_Land_hasGround : MethodName := ⟨R_Land, "hasGround", "(I)Z"⟩
theorem d_Land_hasGround_0 : decode b_Land_hasGround 0 = .ok (.iload_n 1, 1) := by decide +kernel
theorem d_Land_hasGround_1 : decode b_Land_hasGround 1 = .ok (.ifCond .lt 15, 3) := by decide +kernel
theorem d_Land_hasGround_4 : decode b_Land_hasGround 4 = .ok (.iload_n 1, 1) := by decide +kernel
theorem d_Land_hasGround_5 : decode b_Land_hasGround 5 = .ok (.aload_n 0, 1) := by decide +kernel
theorem d_Land_hasGround_6 : decode b_Land_hasGround 6 = .ok (.getfield 21, 3) := by decide +kernel
theorem d_Land_hasGround_9 : decode b_Land_hasGround 9 = .ok (.if_icmp .ge 7, 3) := by decide +kernel
theorem d_Land_hasGround_12 : decode b_Land_hasGround 12 = .ok (.iconst 1, 1) := by decide +kernel
theorem d_Land_hasGround_13 : decode b_Land_hasGround 13 = .ok (.goto 4, 3) := by decide +kernel
theorem d_Land_hasGround_16 : decode b_Land_hasGround 16 = .ok (.iconst 0, 1) := by decide +kernel
theorem d_Land_hasGround_17 : decode b_Land_hasGround 17 = .ok (.ireturn, 1) := by decide +kernel
theorem v_Land_hasGround : dk_Yv y_Land_hasGround b_Land_hasGround 2 (some .boolean) 1 := ⟨dk_in (List.mem_of_getElem? (i := 422) (by decide +kernel)) rfl, dk_in (List.mem_of_getElem? (i := 423) (by decide +kernel)) rfl, dk_in (List.mem_of_getElem? (i := 67) (by decide +kernel)) rfl, dk_in (List.mem_of_getElem? (i := 424) (by decide +kernel)) rfl, by decide +kernel, by decide +kernel, by decide +kernel⟩
abbrev rm_Land_hasGround : Room := { frames := 0, cells := 0, slots := 0, locals := 0 }
theorem f_Land_21 : Cond.fieldLink R_Land 21 (T_Land 3).1 (T_Land 3).2.1 (T_Land 3).2.2.1 ∈ dk_tb := dk_in (List.mem_of_getElem? (i := 106) (by decide +kernel)) rfl
def B_Land_hasGround_0 (n T : Nat)  (x1 : Int32) (S : dk_S) : Option (Int32 × dk_S) :=
  if x1 < 0 then (dk_b (0 : Int32) (some ((0 : Int32), S))) else (if (S 102 0) ≤ x1 then (dk_b (0 : Int32) (some ((0 : Int32), S))) else (dk_b (1 : Int32) (some ((1 : Int32), S))))
set_option maxRecDepth 20000 in
theorem kb_Land_hasGround_0 {p : Program} {l : Launch} {e : Env} {s : State} {m : MethodId} {args : Array Value} {below : List Frame} {meth : Method} {c : Code} {g : dk_G} {A : Nat → Prop} {Q : State → Prop} {ad : Nat → Nat} {T : Nat} {n : Nat} {res : (Int32 × dk_S)} (X : dk_X p s m args meth c b_Land_hasGround 2 R_Land (some .boolean) g A) (hR : dk_Ri p l e rm_Land_hasGround s m args below meth c g A Q 2 b_Land_hasGround (some .boolean) (wC g ad T) res)  {x1 : Int32} {S : dk_S}  (hF : B_Land_hasGround_0 n T  x1 S = some res) : dk_J p l e rm_Land_hasGround s m args below meth c g A Q 2 0 0 0 [(0, .ref (ad 1)), (1, .int x1)] [] (wC g ad T S) := by
  unfold B_Land_hasGround_0 at hF
  refine dk_iload_n (k := 1) (i := 1) X 1 rfl rfl d_Land_hasGround_0 ?_
  refine dk_if_lt (tgt := 16) X (by decide) d_Land_hasGround_1 hF (fun hF => ?_) (fun hF => ?_)
  · refine dk_iconst (v := 0) X (by decide) d_Land_hasGround_16 ?_
    exact dk_retz hR hF d_Land_hasGround_17
  · refine dk_iload_n (k := 1) (i := 1) X 1 rfl rfl d_Land_hasGround_4 ?_
    refine dk_aload_n (k := 0) (i := 0) X 0 rfl rfl d_Land_hasGround_5 ?_
    refine dk_get X q_Land 1 3 (by decide) (oC_Land g ad T S) rfl f_Land_21 d_Land_hasGround_6 ?_
    refine dk_icmp_ge (tgt := 16) X (by decide) d_Land_hasGround_9 hF (fun hF => ?_) (fun hF => ?_)
    · refine dk_iconst (v := 0) X (by decide) d_Land_hasGround_16 ?_
      exact dk_retz hR hF d_Land_hasGround_17
    · refine dk_iconst (v := 1) X (by decide) d_Land_hasGround_12 ?_
      refine dk_goto (tgt := 17) X (by decide) d_Land_hasGround_13 ?_
      exact dk_retz hR hF d_Land_hasGround_17
def F_Land_hasGround (n T : Nat) (x1 : Int32) (S : dk_S) : Option (Int32 × dk_S) := B_Land_hasGround_0 n T x1 S
theorem c_Land_hasGround (l : Launch) (g : dk_G) (ad : Nat → Nat) (T n : Nat) (x1 : Int32)  (S : dk_S) : dk_Mi l g y_Land_hasGround b_Land_hasGround 2 rm_Land_hasGround (some .boolean) [.ref (ad 1), .int x1] (wC g ad T) S (F_Land_hasGround n T x1 S) := dk_enteri (by decide) (Nat.le_of_ble_eq_true rfl) (fun p e s m args below meth c A Q res hF X hR => (kb_Land_hasGround_0 (n := n) X hR  hF))
abbrev b_Land_hasBeast : ByteArray := prog_4_method_3_code
def y_Land_hasBeast : MethodName := ⟨R_Land, "hasBeast", "(I)Z"⟩
theorem d_Land_hasBeast_0 : decode b_Land_hasBeast 0 = .ok (.iload_n 1, 1) := by decide +kernel
theorem d_Land_hasBeast_1 : decode b_Land_hasBeast 1 = .ok (.ifCond .lt 15, 3) := by decide +kernel
theorem d_Land_hasBeast_4 : decode b_Land_hasBeast 4 = .ok (.iload_n 1, 1) := by decide +kernel
theorem d_Land_hasBeast_5 : decode b_Land_hasBeast 5 = .ok (.aload_n 0, 1) := by decide +kernel
theorem d_Land_hasBeast_6 : decode b_Land_hasBeast 6 = .ok (.getfield 25, 3) := by decide +kernel
theorem d_Land_hasBeast_9 : decode b_Land_hasBeast 9 = .ok (.if_icmp .ge 7, 3) := by decide +kernel
theorem d_Land_hasBeast_12 : decode b_Land_hasBeast 12 = .ok (.iconst 1, 1) := by decide +kernel
theorem d_Land_hasBeast_13 : decode b_Land_hasBeast 13 = .ok (.goto 4, 3) := by decide +kernel
theorem d_Land_hasBeast_16 : decode b_Land_hasBeast 16 = .ok (.iconst 0, 1) := by decide +kernel
theorem d_Land_hasBeast_17 : decode b_Land_hasBeast 17 = .ok (.ireturn, 1) := by decide +kernel
theorem v_Land_hasBeast : dk_Yv y_Land_hasBeast b_Land_hasBeast 2 (some .boolean) 1 := ⟨dk_in (List.mem_of_getElem? (i := 438) (by decide +kernel)) rfl, dk_in (List.mem_of_getElem? (i := 439) (by decide +kernel)) rfl, dk_in (List.mem_of_getElem? (i := 67) (by decide +kernel)) rfl, dk_in (List.mem_of_getElem? (i := 440) (by decide +kernel)) rfl, by decide +kernel, by decide +kernel, by decide +kernel⟩
abbrev rm_Land_hasBeast : Room := { frames := 0, cells := 0, slots := 0, locals := 0 }
theorem f_Land_25 : Cond.fieldLink R_Land 25 (T_Land 4).1 (T_Land 4).2.1 (T_Land 4).2.2.1 ∈ dk_tb := dk_in (List.mem_of_getElem? (i := 109) (by decide +kernel)) rfl
def B_Land_hasBeast_0 (n T : Nat)  (x1 : Int32) (S : dk_S) : Option (Int32 × dk_S) :=
  if x1 < 0 then (dk_b (0 : Int32) (some ((0 : Int32), S))) else (if (S 103 0) ≤ x1 then (dk_b (0 : Int32) (some ((0 : Int32), S))) else (dk_b (1 : Int32) (some ((1 : Int32), S))))
set_option maxRecDepth 20000 in
theorem kb_Land_hasBeast_0 {p : Program} {l : Launch} {e : Env} {s : State} {m : MethodId} {args : Array Value} {below : List Frame} {meth : Method} {c : Code} {g : dk_G} {A : Nat → Prop} {Q : State → Prop} {ad : Nat → Nat} {T : Nat} {n : Nat} {res : (Int32 × dk_S)} (X : dk_X p s m args meth c b_Land_hasBeast 2 R_Land (some .boolean) g A) (hR : dk_Ri p l e rm_Land_hasBeast s m args below meth c g A Q 2 b_Land_hasBeast (some .boolean) (wC g ad T) res)  {x1 : Int32} {S : dk_S}  (hF : B_Land_hasBeast_0 n T  x1 S = some res) : dk_J p l e rm_Land_hasBeast s m args below meth c g A Q 2 0 0 0 [(0, .ref (ad 1)), (1, .int x1)] [] (wC g ad T S) := by
  unfold B_Land_hasBeast_0 at hF
  refine dk_iload_n (k := 1) (i := 1) X 1 rfl rfl d_Land_hasBeast_0 ?_
  refine dk_if_lt (tgt := 16) X (by decide) d_Land_hasBeast_1 hF (fun hF => ?_) (fun hF => ?_)
  · refine dk_iconst (v := 0) X (by decide) d_Land_hasBeast_16 ?_
    exact dk_retz hR hF d_Land_hasBeast_17
  · refine dk_iload_n (k := 1) (i := 1) X 1 rfl rfl d_Land_hasBeast_4 ?_
    refine dk_aload_n (k := 0) (i := 0) X 0 rfl rfl d_Land_hasBeast_5 ?_
    refine dk_get X q_Land 1 4 (by decide) (oC_Land g ad T S) rfl f_Land_25 d_Land_hasBeast_6 ?_
    refine dk_icmp_ge (tgt := 16) X (by decide) d_Land_hasBeast_9 hF (fun hF => ?_) (fun hF => ?_)
    · refine dk_iconst (v := 0) X (by decide) d_Land_hasBeast_16 ?_
      exact dk_retz hR hF d_Land_hasBeast_17
    · refine dk_iconst (v := 1) X (by decide) d_Land_hasBeast_12 ?_
      refine dk_goto (tgt := 17) X (by decide) d_Land_hasBeast_13 ?_
      exact dk_retz hR hF d_Land_hasBeast_17
def F_Land_hasBeast (n T : Nat) (x1 : Int32) (S : dk_S) : Option (Int32 × dk_S) := B_Land_hasBeast_0 n T x1 S
theorem c_Land_hasBeast (l : Launch) (g : dk_G) (ad : Nat → Nat) (T n : Nat) (x1 : Int32)  (S : dk_S) : dk_Mi l g y_Land_hasBeast b_Land_hasBeast 2 rm_Land_hasBeast (some .boolean) [.ref (ad 1), .int x1] (wC g ad T) S (F_Land_hasBeast n T x1 S) := dk_enteri (by decide) (Nat.le_of_ble_eq_true rfl) (fun p e s m args below meth c A Q res hF X hR => (kb_Land_hasBeast_0 (n := n) X hR  hF))
abbrev b_Land_ownerOf : ByteArray := prog_4_method_4_code
def y_Land_ownerOf : MethodName := ⟨R_Land, "ownerOf", "(I)I"⟩
theorem d_Land_ownerOf_0 : decode b_Land_ownerOf 0 = .ok (.iload_n 1, 1) := by decide +kernel
theorem d_Land_ownerOf_1 : decode b_Land_ownerOf 1 = .ok (.ifCond .lt 20, 3) := by decide +kernel
theorem d_Land_ownerOf_4 : decode b_Land_ownerOf 4 = .ok (.iload_n 1, 1) := by decide +kernel
theorem d_Land_ownerOf_5 : decode b_Land_ownerOf 5 = .ok (.aload_n 0, 1) := by decide +kernel
theorem d_Land_ownerOf_6 : decode b_Land_ownerOf 6 = .ok (.getfield 21, 3) := by decide +kernel
theorem d_Land_ownerOf_9 : decode b_Land_ownerOf 9 = .ok (.if_icmp .ge 12, 3) := by decide +kernel
theorem d_Land_ownerOf_12 : decode b_Land_ownerOf 12 = .ok (.aload_n 0, 1) := by decide +kernel
theorem d_Land_ownerOf_13 : decode b_Land_ownerOf 13 = .ok (.getfield 9, 3) := by decide +kernel
theorem d_Land_ownerOf_16 : decode b_Land_ownerOf 16 = .ok (.iload_n 1, 1) := by decide +kernel
theorem d_Land_ownerOf_17 : decode b_Land_ownerOf 17 = .ok (.iaload, 1) := by decide +kernel
theorem d_Land_ownerOf_18 : decode b_Land_ownerOf 18 = .ok (.goto 4, 3) := by decide +kernel
theorem d_Land_ownerOf_21 : decode b_Land_ownerOf 21 = .ok (.iconst (-1), 1) := by decide +kernel
theorem d_Land_ownerOf_22 : decode b_Land_ownerOf 22 = .ok (.ireturn, 1) := by decide +kernel
theorem v_Land_ownerOf : dk_Yv y_Land_ownerOf b_Land_ownerOf 2 (some .int) 1 := ⟨dk_in (List.mem_of_getElem? (i := 656) (by decide +kernel)) rfl, dk_in (List.mem_of_getElem? (i := 657) (by decide +kernel)) rfl, dk_in (List.mem_of_getElem? (i := 67) (by decide +kernel)) rfl, dk_in (List.mem_of_getElem? (i := 658) (by decide +kernel)) rfl, by decide +kernel, by decide +kernel, by decide +kernel⟩
abbrev rm_Land_ownerOf : Room := { frames := 0, cells := 0, slots := 0, locals := 0 }
theorem f_Land_9 : Cond.fieldLink R_Land 9 (T_Land 0).1 (T_Land 0).2.1 (T_Land 0).2.2.1 ∈ dk_tb := dk_in (List.mem_of_getElem? (i := 98) (by decide +kernel)) rfl
def B_Land_ownerOf_0 (n T : Nat)  (x1 : Int32) (S : dk_S) : Option (Int32 × dk_S) :=
  if x1 < 0 then (some ((-1 : Int32), S)) else (if (S 102 0) ≤ x1 then (some ((-1 : Int32), S)) else (dk_r 8 (S 2) x1 fun v1 => some (v1, S)))
set_option maxRecDepth 20000 in
theorem kb_Land_ownerOf_0 {p : Program} {l : Launch} {e : Env} {s : State} {m : MethodId} {args : Array Value} {below : List Frame} {meth : Method} {c : Code} {g : dk_G} {A : Nat → Prop} {Q : State → Prop} {ad : Nat → Nat} {T : Nat} {n : Nat} {res : (Int32 × dk_S)} (X : dk_X p s m args meth c b_Land_ownerOf 2 R_Land (some .int) g A) (hR : dk_Ri p l e rm_Land_ownerOf s m args below meth c g A Q 2 b_Land_ownerOf (some .int) (wC g ad T) res)  {x1 : Int32} {S : dk_S}  (hF : B_Land_ownerOf_0 n T  x1 S = some res) : dk_J p l e rm_Land_ownerOf s m args below meth c g A Q 2 0 0 0 [(0, .ref (ad 1)), (1, .int x1)] [] (wC g ad T S) := by
  unfold B_Land_ownerOf_0 at hF
  refine dk_iload_n (k := 1) (i := 1) X 1 rfl rfl d_Land_ownerOf_0 ?_
  refine dk_if_lt (tgt := 21) X (by decide) d_Land_ownerOf_1 hF (fun hF => ?_) (fun hF => ?_)
  · refine dk_iconst (v := -1) X (by decide) d_Land_ownerOf_21 ?_
    exact dk_reti hR hF d_Land_ownerOf_22
  · refine dk_iload_n (k := 1) (i := 1) X 1 rfl rfl d_Land_ownerOf_4 ?_
    refine dk_aload_n (k := 0) (i := 0) X 0 rfl rfl d_Land_ownerOf_5 ?_
    refine dk_get X q_Land 1 3 (by decide) (oC_Land g ad T S) rfl f_Land_21 d_Land_ownerOf_6 ?_
    refine dk_icmp_ge (tgt := 21) X (by decide) d_Land_ownerOf_9 hF (fun hF => ?_) (fun hF => ?_)
    · refine dk_iconst (v := -1) X (by decide) d_Land_ownerOf_21 ?_
      exact dk_reti hR hF d_Land_ownerOf_22
    · refine dk_aload_n (k := 0) (i := 0) X 0 rfl rfl d_Land_ownerOf_12 ?_
      refine dk_get X q_Land 1 0 (by decide) (oC_Land g ad T S) rfl f_Land_9 d_Land_ownerOf_13 ?_
      refine dk_iload_n (k := 1) (i := 1) X 1 rfl rfl d_Land_ownerOf_16 ?_
      refine dk_iald X 2 (aC_2 g ad T S) d_Land_ownerOf_17 hF (fun v1 hF => ?_)
      refine dk_goto (tgt := 22) X (by decide) d_Land_ownerOf_18 ?_
      exact dk_reti hR hF d_Land_ownerOf_22
def F_Land_ownerOf (n T : Nat) (x1 : Int32) (S : dk_S) : Option (Int32 × dk_S) := B_Land_ownerOf_0 n T x1 S
theorem c_Land_ownerOf (l : Launch) (g : dk_G) (ad : Nat → Nat) (T n : Nat) (x1 : Int32)  (S : dk_S) : dk_Mi l g y_Land_ownerOf b_Land_ownerOf 2 rm_Land_ownerOf (some .int) [.ref (ad 1), .int x1] (wC g ad T) S (F_Land_ownerOf n T x1 S) := dk_enteri (by decide) (Nat.le_of_ble_eq_true rfl) (fun p e s m args below meth c A Q res hF X hR => (kb_Land_ownerOf_0 (n := n) X hR  hF))
abbrev b_Land_isTame : ByteArray := prog_4_method_5_code
def y_Land_isTame : MethodName := ⟨R_Land, "isTame", "(I)Z"⟩
theorem d_Land_isTame_0 : decode b_Land_isTame 0 = .ok (.iload_n 1, 1) := by decide +kernel
theorem d_Land_isTame_1 : decode b_Land_isTame 1 = .ok (.ifCond .lt 25, 3) := by decide +kernel
theorem d_Land_isTame_4 : decode b_Land_isTame 4 = .ok (.iload_n 1, 1) := by decide +kernel
theorem d_Land_isTame_5 : decode b_Land_isTame 5 = .ok (.aload_n 0, 1) := by decide +kernel
theorem d_Land_isTame_6 : decode b_Land_isTame 6 = .ok (.getfield 25, 3) := by decide +kernel
theorem d_Land_isTame_9 : decode b_Land_isTame 9 = .ok (.if_icmp .ge 17, 3) := by decide +kernel
theorem d_Land_isTame_12 : decode b_Land_isTame 12 = .ok (.aload_n 0, 1) := by decide +kernel
theorem d_Land_isTame_13 : decode b_Land_isTame 13 = .ok (.getfield 18, 3) := by decide +kernel
theorem d_Land_isTame_16 : decode b_Land_isTame 16 = .ok (.iload_n 1, 1) := by decide +kernel
theorem d_Land_isTame_17 : decode b_Land_isTame 17 = .ok (.iaload, 1) := by decide +kernel
theorem d_Land_isTame_18 : decode b_Land_isTame 18 = .ok (.iconst (-1), 1) := by decide +kernel
theorem d_Land_isTame_19 : decode b_Land_isTame 19 = .ok (.if_icmp .eq 7, 3) := by decide +kernel
theorem d_Land_isTame_22 : decode b_Land_isTame 22 = .ok (.iconst 1, 1) := by decide +kernel
theorem d_Land_isTame_23 : decode b_Land_isTame 23 = .ok (.goto 4, 3) := by decide +kernel
theorem d_Land_isTame_26 : decode b_Land_isTame 26 = .ok (.iconst 0, 1) := by decide +kernel
theorem d_Land_isTame_27 : decode b_Land_isTame 27 = .ok (.ireturn, 1) := by decide +kernel
theorem v_Land_isTame : dk_Yv y_Land_isTame b_Land_isTame 2 (some .boolean) 1 := ⟨dk_in (List.mem_of_getElem? (i := 664) (by decide +kernel)) rfl, dk_in (List.mem_of_getElem? (i := 665) (by decide +kernel)) rfl, dk_in (List.mem_of_getElem? (i := 67) (by decide +kernel)) rfl, dk_in (List.mem_of_getElem? (i := 666) (by decide +kernel)) rfl, by decide +kernel, by decide +kernel, by decide +kernel⟩
abbrev rm_Land_isTame : Room := { frames := 0, cells := 0, slots := 0, locals := 0 }
theorem f_Land_18 : Cond.fieldLink R_Land 18 (T_Land 2).1 (T_Land 2).2.1 (T_Land 2).2.2.1 ∈ dk_tb := dk_in (List.mem_of_getElem? (i := 104) (by decide +kernel)) rfl
def B_Land_isTame_0 (n T : Nat)  (x1 : Int32) (S : dk_S) : Option (Int32 × dk_S) :=
  if x1 < 0 then (dk_b (0 : Int32) (some ((0 : Int32), S))) else (if (S 103 0) ≤ x1 then (dk_b (0 : Int32) (some ((0 : Int32), S))) else (dk_r 6 (S 4) x1 fun v1 => if v1 = (-1 : Int32) then (dk_b (0 : Int32) (some ((0 : Int32), S))) else (dk_b (1 : Int32) (some ((1 : Int32), S)))))
set_option maxRecDepth 20000 in
theorem kb_Land_isTame_0 {p : Program} {l : Launch} {e : Env} {s : State} {m : MethodId} {args : Array Value} {below : List Frame} {meth : Method} {c : Code} {g : dk_G} {A : Nat → Prop} {Q : State → Prop} {ad : Nat → Nat} {T : Nat} {n : Nat} {res : (Int32 × dk_S)} (X : dk_X p s m args meth c b_Land_isTame 2 R_Land (some .boolean) g A) (hR : dk_Ri p l e rm_Land_isTame s m args below meth c g A Q 2 b_Land_isTame (some .boolean) (wC g ad T) res)  {x1 : Int32} {S : dk_S}  (hF : B_Land_isTame_0 n T  x1 S = some res) : dk_J p l e rm_Land_isTame s m args below meth c g A Q 2 0 0 0 [(0, .ref (ad 1)), (1, .int x1)] [] (wC g ad T S) := by
  unfold B_Land_isTame_0 at hF
  refine dk_iload_n (k := 1) (i := 1) X 1 rfl rfl d_Land_isTame_0 ?_
  refine dk_if_lt (tgt := 26) X (by decide) d_Land_isTame_1 hF (fun hF => ?_) (fun hF => ?_)
  · refine dk_iconst (v := 0) X (by decide) d_Land_isTame_26 ?_
    exact dk_retz hR hF d_Land_isTame_27
  · refine dk_iload_n (k := 1) (i := 1) X 1 rfl rfl d_Land_isTame_4 ?_
    refine dk_aload_n (k := 0) (i := 0) X 0 rfl rfl d_Land_isTame_5 ?_
    refine dk_get X q_Land 1 4 (by decide) (oC_Land g ad T S) rfl f_Land_25 d_Land_isTame_6 ?_
    refine dk_icmp_ge (tgt := 26) X (by decide) d_Land_isTame_9 hF (fun hF => ?_) (fun hF => ?_)
    · refine dk_iconst (v := 0) X (by decide) d_Land_isTame_26 ?_
      exact dk_retz hR hF d_Land_isTame_27
    · refine dk_aload_n (k := 0) (i := 0) X 0 rfl rfl d_Land_isTame_12 ?_
      refine dk_get X q_Land 1 2 (by decide) (oC_Land g ad T S) rfl f_Land_18 d_Land_isTame_13 ?_
      refine dk_iload_n (k := 1) (i := 1) X 1 rfl rfl d_Land_isTame_16 ?_
      refine dk_iald X 4 (aC_4 g ad T S) d_Land_isTame_17 hF (fun v1 hF => ?_)
      refine dk_iconst (v := -1) X (by decide) d_Land_isTame_18 ?_
      refine dk_icmp_eq (tgt := 26) X (by decide) d_Land_isTame_19 hF (fun hF => ?_) (fun hF => ?_)
      · refine dk_iconst (v := 0) X (by decide) d_Land_isTame_26 ?_
        exact dk_retz hR hF d_Land_isTame_27
      · refine dk_iconst (v := 1) X (by decide) d_Land_isTame_22 ?_
        refine dk_goto (tgt := 27) X (by decide) d_Land_isTame_23 ?_
        exact dk_retz hR hF d_Land_isTame_27
def F_Land_isTame (n T : Nat) (x1 : Int32) (S : dk_S) : Option (Int32 × dk_S) := B_Land_isTame_0 n T x1 S
theorem c_Land_isTame (l : Launch) (g : dk_G) (ad : Nat → Nat) (T n : Nat) (x1 : Int32)  (S : dk_S) : dk_Mi l g y_Land_isTame b_Land_isTame 2 rm_Land_isTame (some .boolean) [.ref (ad 1), .int x1] (wC g ad T) S (F_Land_isTame n T x1 S) := dk_enteri (by decide) (Nat.le_of_ble_eq_true rfl) (fun p e s m args below meth c A Q res hF X hR => (kb_Land_isTame_0 (n := n) X hR  hF))
abbrev b_Land_addGround : ByteArray := prog_4_method_6_code
def y_Land_addGround : MethodName := ⟨R_Land, "addGround", "(I)I"⟩
theorem d_Land_addGround_0 : decode b_Land_addGround 0 = .ok (.aload_n 0, 1) := by decide +kernel
theorem d_Land_addGround_1 : decode b_Land_addGround 1 = .ok (.getfield 21, 3) := by decide +kernel
theorem d_Land_addGround_4 : decode b_Land_addGround 4 = .ok (.bipush 8, 2) := by decide +kernel
theorem d_Land_addGround_6 : decode b_Land_addGround 6 = .ok (.if_icmp .lt 6, 3) := by decide +kernel
theorem d_Land_addGround_9 : decode b_Land_addGround 9 = .ok (.bipush (-4), 2) := by decide +kernel
theorem d_Land_addGround_11 : decode b_Land_addGround 11 = .ok (.ireturn, 1) := by decide +kernel
theorem d_Land_addGround_12 : decode b_Land_addGround 12 = .ok (.aload_n 0, 1) := by decide +kernel
theorem d_Land_addGround_13 : decode b_Land_addGround 13 = .ok (.getfield 9, 3) := by decide +kernel
theorem d_Land_addGround_16 : decode b_Land_addGround 16 = .ok (.aload_n 0, 1) := by decide +kernel
theorem d_Land_addGround_17 : decode b_Land_addGround 17 = .ok (.getfield 21, 3) := by decide +kernel
theorem d_Land_addGround_20 : decode b_Land_addGround 20 = .ok (.iload_n 1, 1) := by decide +kernel
theorem d_Land_addGround_21 : decode b_Land_addGround 21 = .ok (.iastore, 1) := by decide +kernel
theorem d_Land_addGround_22 : decode b_Land_addGround 22 = .ok (.aload_n 0, 1) := by decide +kernel
theorem d_Land_addGround_23 : decode b_Land_addGround 23 = .ok (.dup, 1) := by decide +kernel
theorem d_Land_addGround_24 : decode b_Land_addGround 24 = .ok (.getfield 21, 3) := by decide +kernel
theorem d_Land_addGround_27 : decode b_Land_addGround 27 = .ok (.dup_x1, 1) := by decide +kernel
theorem d_Land_addGround_28 : decode b_Land_addGround 28 = .ok (.iconst 1, 1) := by decide +kernel
theorem d_Land_addGround_29 : decode b_Land_addGround 29 = .ok (.iadd, 1) := by decide +kernel
theorem d_Land_addGround_30 : decode b_Land_addGround 30 = .ok (.putfield 21, 3) := by decide +kernel
theorem d_Land_addGround_33 : decode b_Land_addGround 33 = .ok (.ireturn, 1) := by decide +kernel
theorem v_Land_addGround : dk_Yv y_Land_addGround b_Land_addGround 2 (some .int) 1 := ⟨dk_in (List.mem_of_getElem? (i := 414) (by decide +kernel)) rfl, dk_in (List.mem_of_getElem? (i := 415) (by decide +kernel)) rfl, dk_in (List.mem_of_getElem? (i := 67) (by decide +kernel)) rfl, dk_in (List.mem_of_getElem? (i := 416) (by decide +kernel)) rfl, by decide +kernel, by decide +kernel, by decide +kernel⟩
abbrev rm_Land_addGround : Room := { frames := 0, cells := 0, slots := 0, locals := 0 }
def B_Land_addGround_0 (n T : Nat)  (x1 : Int32) (S : dk_S) : Option (Int32 × dk_S) :=
  if (S 102 0) < (8 : Int32) then (dk_w S 2 8 (S 102 0) x1 fun S1 => dk_p S1 102 ((S1 102 0) + (1 : Int32)) fun S2 => some ((S1 102 0), S2)) else (some ((-4 : Int32), S))
set_option maxRecDepth 20000 in
theorem kb_Land_addGround_0 {p : Program} {l : Launch} {e : Env} {s : State} {m : MethodId} {args : Array Value} {below : List Frame} {meth : Method} {c : Code} {g : dk_G} {A : Nat → Prop} {Q : State → Prop} {ad : Nat → Nat} {T : Nat} {n : Nat} {res : (Int32 × dk_S)} (X : dk_X p s m args meth c b_Land_addGround 2 R_Land (some .int) g A) (hR : dk_Ri p l e rm_Land_addGround s m args below meth c g A Q 2 b_Land_addGround (some .int) (wC g ad T) res)  {x1 : Int32} {S : dk_S}  (hF : B_Land_addGround_0 n T  x1 S = some res) : dk_J p l e rm_Land_addGround s m args below meth c g A Q 2 0 0 0 [(0, .ref (ad 1)), (1, .int x1)] [] (wC g ad T S) := by
  unfold B_Land_addGround_0 at hF
  refine dk_aload_n (k := 0) (i := 0) X 0 rfl rfl d_Land_addGround_0 ?_
  refine dk_get X q_Land 1 3 (by decide) (oC_Land g ad T S) rfl f_Land_21 d_Land_addGround_1 ?_
  refine dk_bipush (v := 8) X (by decide) d_Land_addGround_4 ?_
  refine dk_icmp_lt (tgt := 12) X (by decide) d_Land_addGround_6 hF (fun hF => ?_) (fun hF => ?_)
  · refine dk_aload_n (k := 0) (i := 0) X 0 rfl rfl d_Land_addGround_12 ?_
    refine dk_get X q_Land 1 0 (by decide) (oC_Land g ad T S) rfl f_Land_9 d_Land_addGround_13 ?_
    refine dk_aload_n (k := 0) (i := 0) X 0 rfl rfl d_Land_addGround_16 ?_
    refine dk_get X q_Land 1 3 (by decide) (oC_Land g ad T S) rfl f_Land_21 d_Land_addGround_17 ?_
    refine dk_iload_n (k := 1) (i := 1) X 1 rfl rfl d_Land_addGround_20 ?_
    refine dk_iast X 2 (aC_2 g ad T S) (sC_2 g ad T S _ _) d_Land_addGround_21 hF (fun S1 hF => ?_)
    refine dk_aload_n (k := 0) (i := 0) X 0 rfl rfl d_Land_addGround_22 ?_
    refine dk_dup X rfl d_Land_addGround_23 ?_
    refine dk_get X q_Land 1 3 (by decide) (oC_Land g ad T S1) rfl f_Land_21 d_Land_addGround_24 ?_
    refine dk_dup_x1 X rfl rfl d_Land_addGround_27 ?_
    refine dk_iconst (v := 1) X (by decide) d_Land_addGround_28 ?_
    refine dk_iadd X d_Land_addGround_29 ?_
    refine dk_puti X q_Land 1 3 (by decide) (oC_Land g ad T S1) f_Land_21 rfl rfl (Nat.le_of_ble_eq_true rfl) (sC_Land_grounds g ad T S1 _) d_Land_addGround_30 hF (fun S2 hF => ?_)
    exact dk_reti hR hF d_Land_addGround_33
  · refine dk_bipush (v := -4) X (by decide) d_Land_addGround_9 ?_
    exact dk_reti hR hF d_Land_addGround_11
def F_Land_addGround (n T : Nat) (x1 : Int32) (S : dk_S) : Option (Int32 × dk_S) := B_Land_addGround_0 n T x1 S
theorem c_Land_addGround (l : Launch) (g : dk_G) (ad : Nat → Nat) (T n : Nat) (x1 : Int32)  (S : dk_S) : dk_Mi l g y_Land_addGround b_Land_addGround 2 rm_Land_addGround (some .int) [.ref (ad 1), .int x1] (wC g ad T) S (F_Land_addGround n T x1 S) := dk_enteri (by decide) (Nat.le_of_ble_eq_true rfl) (fun p e s m args below meth c A Q res hF X hR => (kb_Land_addGround_0 (n := n) X hR  hF))
abbrev b_Land_addBeast : ByteArray := prog_4_method_7_code
def y_Land_addBeast : MethodName := ⟨R_Land, "addBeast", "(II)I"⟩
theorem d_Land_addBeast_0 : decode b_Land_addBeast 0 = .ok (.aload_n 0, 1) := by decide +kernel
theorem d_Land_addBeast_1 : decode b_Land_addBeast 1 = .ok (.getfield 25, 3) := by decide +kernel
theorem d_Land_addBeast_4 : decode b_Land_addBeast 4 = .ok (.bipush 6, 2) := by decide +kernel
theorem d_Land_addBeast_6 : decode b_Land_addBeast 6 = .ok (.if_icmp .lt 6, 3) := by decide +kernel
theorem d_Land_addBeast_9 : decode b_Land_addBeast 9 = .ok (.bipush (-4), 2) := by decide +kernel
theorem d_Land_addBeast_11 : decode b_Land_addBeast 11 = .ok (.ireturn, 1) := by decide +kernel
theorem d_Land_addBeast_12 : decode b_Land_addBeast 12 = .ok (.aload_n 0, 1) := by decide +kernel
theorem d_Land_addBeast_13 : decode b_Land_addBeast 13 = .ok (.getfield 15, 3) := by decide +kernel
theorem d_Land_addBeast_16 : decode b_Land_addBeast 16 = .ok (.aload_n 0, 1) := by decide +kernel
theorem d_Land_addBeast_17 : decode b_Land_addBeast 17 = .ok (.getfield 25, 3) := by decide +kernel
theorem d_Land_addBeast_20 : decode b_Land_addBeast 20 = .ok (.iload_n 1, 1) := by decide +kernel
theorem d_Land_addBeast_21 : decode b_Land_addBeast 21 = .ok (.iastore, 1) := by decide +kernel
theorem d_Land_addBeast_22 : decode b_Land_addBeast 22 = .ok (.aload_n 0, 1) := by decide +kernel
theorem d_Land_addBeast_23 : decode b_Land_addBeast 23 = .ok (.getfield 18, 3) := by decide +kernel
theorem d_Land_addBeast_26 : decode b_Land_addBeast 26 = .ok (.aload_n 0, 1) := by decide +kernel
theorem d_Land_addBeast_27 : decode b_Land_addBeast 27 = .ok (.getfield 25, 3) := by decide +kernel
theorem d_Land_addBeast_30 : decode b_Land_addBeast 30 = .ok (.iload_n 2, 1) := by decide +kernel
theorem d_Land_addBeast_31 : decode b_Land_addBeast 31 = .ok (.iastore, 1) := by decide +kernel
theorem d_Land_addBeast_32 : decode b_Land_addBeast 32 = .ok (.aload_n 0, 1) := by decide +kernel
theorem d_Land_addBeast_33 : decode b_Land_addBeast 33 = .ok (.dup, 1) := by decide +kernel
theorem d_Land_addBeast_34 : decode b_Land_addBeast 34 = .ok (.getfield 25, 3) := by decide +kernel
theorem d_Land_addBeast_37 : decode b_Land_addBeast 37 = .ok (.dup_x1, 1) := by decide +kernel
theorem d_Land_addBeast_38 : decode b_Land_addBeast 38 = .ok (.iconst 1, 1) := by decide +kernel
theorem d_Land_addBeast_39 : decode b_Land_addBeast 39 = .ok (.iadd, 1) := by decide +kernel
theorem d_Land_addBeast_40 : decode b_Land_addBeast 40 = .ok (.putfield 25, 3) := by decide +kernel
theorem d_Land_addBeast_43 : decode b_Land_addBeast 43 = .ok (.ireturn, 1) := by decide +kernel
theorem v_Land_addBeast : dk_Yv y_Land_addBeast b_Land_addBeast 3 (some .int) 2 := ⟨dk_in (List.mem_of_getElem? (i := 430) (by decide +kernel)) rfl, dk_in (List.mem_of_getElem? (i := 431) (by decide +kernel)) rfl, dk_in (List.mem_of_getElem? (i := 67) (by decide +kernel)) rfl, dk_in (List.mem_of_getElem? (i := 432) (by decide +kernel)) rfl, by decide +kernel, by decide +kernel, by decide +kernel⟩
abbrev rm_Land_addBeast : Room := { frames := 0, cells := 0, slots := 0, locals := 0 }
theorem f_Land_15 : Cond.fieldLink R_Land 15 (T_Land 1).1 (T_Land 1).2.1 (T_Land 1).2.2.1 ∈ dk_tb := dk_in (List.mem_of_getElem? (i := 101) (by decide +kernel)) rfl
def B_Land_addBeast_0 (n T : Nat)  (x1 : Int32) (x2 : Int32) (S : dk_S) : Option (Int32 × dk_S) :=
  if (S 103 0) < (6 : Int32) then (dk_w S 3 6 (S 103 0) x1 fun S1 => dk_w S1 4 6 (S1 103 0) x2 fun S2 => dk_p S2 103 ((S2 103 0) + (1 : Int32)) fun S3 => some ((S2 103 0), S3)) else (some ((-4 : Int32), S))
set_option maxRecDepth 20000 in
theorem kb_Land_addBeast_0 {p : Program} {l : Launch} {e : Env} {s : State} {m : MethodId} {args : Array Value} {below : List Frame} {meth : Method} {c : Code} {g : dk_G} {A : Nat → Prop} {Q : State → Prop} {ad : Nat → Nat} {T : Nat} {n : Nat} {res : (Int32 × dk_S)} (X : dk_X p s m args meth c b_Land_addBeast 3 R_Land (some .int) g A) (hR : dk_Ri p l e rm_Land_addBeast s m args below meth c g A Q 3 b_Land_addBeast (some .int) (wC g ad T) res)  {x1 : Int32} {x2 : Int32} {S : dk_S}  (hF : B_Land_addBeast_0 n T  x1 x2 S = some res) : dk_J p l e rm_Land_addBeast s m args below meth c g A Q 3 0 0 0 [(0, .ref (ad 1)), (1, .int x1), (2, .int x2)] [] (wC g ad T S) := by
  unfold B_Land_addBeast_0 at hF
  refine dk_aload_n (k := 0) (i := 0) X 0 rfl rfl d_Land_addBeast_0 ?_
  refine dk_get X q_Land 1 4 (by decide) (oC_Land g ad T S) rfl f_Land_25 d_Land_addBeast_1 ?_
  refine dk_bipush (v := 6) X (by decide) d_Land_addBeast_4 ?_
  refine dk_icmp_lt (tgt := 12) X (by decide) d_Land_addBeast_6 hF (fun hF => ?_) (fun hF => ?_)
  · refine dk_aload_n (k := 0) (i := 0) X 0 rfl rfl d_Land_addBeast_12 ?_
    refine dk_get X q_Land 1 1 (by decide) (oC_Land g ad T S) rfl f_Land_15 d_Land_addBeast_13 ?_
    refine dk_aload_n (k := 0) (i := 0) X 0 rfl rfl d_Land_addBeast_16 ?_
    refine dk_get X q_Land 1 4 (by decide) (oC_Land g ad T S) rfl f_Land_25 d_Land_addBeast_17 ?_
    refine dk_iload_n (k := 1) (i := 1) X 1 rfl rfl d_Land_addBeast_20 ?_
    refine dk_iast X 3 (aC_3 g ad T S) (sC_3 g ad T S _ _) d_Land_addBeast_21 hF (fun S1 hF => ?_)
    refine dk_aload_n (k := 0) (i := 0) X 0 rfl rfl d_Land_addBeast_22 ?_
    refine dk_get X q_Land 1 2 (by decide) (oC_Land g ad T S1) rfl f_Land_18 d_Land_addBeast_23 ?_
    refine dk_aload_n (k := 0) (i := 0) X 0 rfl rfl d_Land_addBeast_26 ?_
    refine dk_get X q_Land 1 4 (by decide) (oC_Land g ad T S1) rfl f_Land_25 d_Land_addBeast_27 ?_
    refine dk_iload_n (k := 2) (i := 2) X 2 rfl rfl d_Land_addBeast_30 ?_
    refine dk_iast X 4 (aC_4 g ad T S1) (sC_4 g ad T S1 _ _) d_Land_addBeast_31 hF (fun S2 hF => ?_)
    refine dk_aload_n (k := 0) (i := 0) X 0 rfl rfl d_Land_addBeast_32 ?_
    refine dk_dup X rfl d_Land_addBeast_33 ?_
    refine dk_get X q_Land 1 4 (by decide) (oC_Land g ad T S2) rfl f_Land_25 d_Land_addBeast_34 ?_
    refine dk_dup_x1 X rfl rfl d_Land_addBeast_37 ?_
    refine dk_iconst (v := 1) X (by decide) d_Land_addBeast_38 ?_
    refine dk_iadd X d_Land_addBeast_39 ?_
    refine dk_puti X q_Land 1 4 (by decide) (oC_Land g ad T S2) f_Land_25 rfl rfl (Nat.le_of_ble_eq_true rfl) (sC_Land_beasts g ad T S2 _) d_Land_addBeast_40 hF (fun S3 hF => ?_)
    exact dk_reti hR hF d_Land_addBeast_43
  · refine dk_bipush (v := -4) X (by decide) d_Land_addBeast_9 ?_
    exact dk_reti hR hF d_Land_addBeast_11
def F_Land_addBeast (n T : Nat) (x1 : Int32) (x2 : Int32) (S : dk_S) : Option (Int32 × dk_S) := B_Land_addBeast_0 n T x1 x2 S
theorem c_Land_addBeast (l : Launch) (g : dk_G) (ad : Nat → Nat) (T n : Nat) (x1 : Int32) (x2 : Int32)  (S : dk_S) : dk_Mi l g y_Land_addBeast b_Land_addBeast 3 rm_Land_addBeast (some .int) [.ref (ad 1), .int x1, .int x2] (wC g ad T) S (F_Land_addBeast n T x1 x2 S) := dk_enteri (by decide) (Nat.le_of_ble_eq_true rfl) (fun p e s m args below meth c A Q res hF X hR => (kb_Land_addBeast_0 (n := n) X hR  hF))
abbrev b_Diary_has : ByteArray := prog_2_method_2_code
def y_Diary_has : MethodName := ⟨R_Diary, "has", "(I)Z"⟩
theorem d_Diary_has_0 : decode b_Diary_has 0 = .ok (.iload_n 1, 1) := by decide +kernel
theorem d_Diary_has_1 : decode b_Diary_has 1 = .ok (.ifCond .lt 15, 3) := by decide +kernel
theorem d_Diary_has_4 : decode b_Diary_has 4 = .ok (.iload_n 1, 1) := by decide +kernel
theorem d_Diary_has_5 : decode b_Diary_has 5 = .ok (.aload_n 0, 1) := by decide +kernel
theorem d_Diary_has_6 : decode b_Diary_has 6 = .ok (.getfield 30, 3) := by decide +kernel
theorem d_Diary_has_9 : decode b_Diary_has 9 = .ok (.if_icmp .ge 7, 3) := by decide +kernel
theorem d_Diary_has_12 : decode b_Diary_has 12 = .ok (.iconst 1, 1) := by decide +kernel
theorem d_Diary_has_13 : decode b_Diary_has 13 = .ok (.goto 4, 3) := by decide +kernel
theorem d_Diary_has_16 : decode b_Diary_has 16 = .ok (.iconst 0, 1) := by decide +kernel
theorem d_Diary_has_17 : decode b_Diary_has 17 = .ok (.ireturn, 1) := by decide +kernel
theorem v_Diary_has : dk_Yv y_Diary_has b_Diary_has 2 (some .boolean) 1 := ⟨dk_in (List.mem_of_getElem? (i := 462) (by decide +kernel)) rfl, dk_in (List.mem_of_getElem? (i := 463) (by decide +kernel)) rfl, dk_in (List.mem_of_getElem? (i := 68) (by decide +kernel)) rfl, dk_in (List.mem_of_getElem? (i := 464) (by decide +kernel)) rfl, by decide +kernel, by decide +kernel, by decide +kernel⟩
abbrev rm_Diary_has : Room := { frames := 0, cells := 0, slots := 0, locals := 0 }
theorem f_Diary_30 : Cond.fieldLink R_Diary 30 (T_Diary 6).1 (T_Diary 6).2.1 (T_Diary 6).2.2.1 ∈ dk_tb := dk_in (List.mem_of_getElem? (i := 149) (by decide +kernel)) rfl
def B_Diary_has_0 (n T : Nat)  (x1 : Int32) (S : dk_S) : Option (Int32 × dk_S) :=
  if x1 < 0 then (dk_b (0 : Int32) (some ((0 : Int32), S))) else (if (S 104 0) ≤ x1 then (dk_b (0 : Int32) (some ((0 : Int32), S))) else (dk_b (1 : Int32) (some ((1 : Int32), S))))
set_option maxRecDepth 20000 in
theorem kb_Diary_has_0 {p : Program} {l : Launch} {e : Env} {s : State} {m : MethodId} {args : Array Value} {below : List Frame} {meth : Method} {c : Code} {g : dk_G} {A : Nat → Prop} {Q : State → Prop} {ad : Nat → Nat} {T : Nat} {n : Nat} {res : (Int32 × dk_S)} (X : dk_X p s m args meth c b_Diary_has 2 R_Diary (some .boolean) g A) (hR : dk_Ri p l e rm_Diary_has s m args below meth c g A Q 2 b_Diary_has (some .boolean) (wC g ad T) res)  {x1 : Int32} {S : dk_S}  (hF : B_Diary_has_0 n T  x1 S = some res) : dk_J p l e rm_Diary_has s m args below meth c g A Q 2 0 0 0 [(0, .ref (ad 5)), (1, .int x1)] [] (wC g ad T S) := by
  unfold B_Diary_has_0 at hF
  refine dk_iload_n (k := 1) (i := 1) X 1 rfl rfl d_Diary_has_0 ?_
  refine dk_if_lt (tgt := 16) X (by decide) d_Diary_has_1 hF (fun hF => ?_) (fun hF => ?_)
  · refine dk_iconst (v := 0) X (by decide) d_Diary_has_16 ?_
    exact dk_retz hR hF d_Diary_has_17
  · refine dk_iload_n (k := 1) (i := 1) X 1 rfl rfl d_Diary_has_4 ?_
    refine dk_aload_n (k := 0) (i := 0) X 0 rfl rfl d_Diary_has_5 ?_
    refine dk_get X q_Diary 5 6 (by decide) (oC_Diary g ad T S) rfl f_Diary_30 d_Diary_has_6 ?_
    refine dk_icmp_ge (tgt := 16) X (by decide) d_Diary_has_9 hF (fun hF => ?_) (fun hF => ?_)
    · refine dk_iconst (v := 0) X (by decide) d_Diary_has_16 ?_
      exact dk_retz hR hF d_Diary_has_17
    · refine dk_iconst (v := 1) X (by decide) d_Diary_has_12 ?_
      refine dk_goto (tgt := 17) X (by decide) d_Diary_has_13 ?_
      exact dk_retz hR hF d_Diary_has_17
def F_Diary_has (n T : Nat) (x1 : Int32) (S : dk_S) : Option (Int32 × dk_S) := B_Diary_has_0 n T x1 S
theorem c_Diary_has (l : Launch) (g : dk_G) (ad : Nat → Nat) (T n : Nat) (x1 : Int32)  (S : dk_S) : dk_Mi l g y_Diary_has b_Diary_has 2 rm_Diary_has (some .boolean) [.ref (ad 5), .int x1] (wC g ad T) S (F_Diary_has n T x1 S) := dk_enteri (by decide) (Nat.le_of_ble_eq_true rfl) (fun p e s m args below meth c A Q res hF X hR => (kb_Diary_has_0 (n := n) X hR  hF))
abbrev b_Diary_reaches : ByteArray := prog_2_method_3_code
def y_Diary_reaches : MethodName := ⟨R_Diary, "reaches", "(I)Z"⟩
theorem d_Diary_reaches_0 : decode b_Diary_reaches 0 = .ok (.iload_n 1, 1) := by decide +kernel
theorem d_Diary_reaches_1 : decode b_Diary_reaches 1 = .ok (.ifCond .lt 15, 3) := by decide +kernel
theorem d_Diary_reaches_4 : decode b_Diary_reaches 4 = .ok (.iload_n 1, 1) := by decide +kernel
theorem d_Diary_reaches_5 : decode b_Diary_reaches 5 = .ok (.aload_n 0, 1) := by decide +kernel
theorem d_Diary_reaches_6 : decode b_Diary_reaches 6 = .ok (.getfield 30, 3) := by decide +kernel
theorem d_Diary_reaches_9 : decode b_Diary_reaches 9 = .ok (.if_icmp .gt 7, 3) := by decide +kernel
theorem d_Diary_reaches_12 : decode b_Diary_reaches 12 = .ok (.iconst 1, 1) := by decide +kernel
theorem d_Diary_reaches_13 : decode b_Diary_reaches 13 = .ok (.goto 4, 3) := by decide +kernel
theorem d_Diary_reaches_16 : decode b_Diary_reaches 16 = .ok (.iconst 0, 1) := by decide +kernel
theorem d_Diary_reaches_17 : decode b_Diary_reaches 17 = .ok (.ireturn, 1) := by decide +kernel
theorem v_Diary_reaches : dk_Yv y_Diary_reaches b_Diary_reaches 2 (some .boolean) 1 := ⟨dk_in (List.mem_of_getElem? (i := 682) (by decide +kernel)) rfl, dk_in (List.mem_of_getElem? (i := 683) (by decide +kernel)) rfl, dk_in (List.mem_of_getElem? (i := 68) (by decide +kernel)) rfl, dk_in (List.mem_of_getElem? (i := 684) (by decide +kernel)) rfl, by decide +kernel, by decide +kernel, by decide +kernel⟩
abbrev rm_Diary_reaches : Room := { frames := 0, cells := 0, slots := 0, locals := 0 }
def B_Diary_reaches_0 (n T : Nat)  (x1 : Int32) (S : dk_S) : Option (Int32 × dk_S) :=
  if x1 < 0 then (dk_b (0 : Int32) (some ((0 : Int32), S))) else (if (S 104 0) < x1 then (dk_b (0 : Int32) (some ((0 : Int32), S))) else (dk_b (1 : Int32) (some ((1 : Int32), S))))
set_option maxRecDepth 20000 in
theorem kb_Diary_reaches_0 {p : Program} {l : Launch} {e : Env} {s : State} {m : MethodId} {args : Array Value} {below : List Frame} {meth : Method} {c : Code} {g : dk_G} {A : Nat → Prop} {Q : State → Prop} {ad : Nat → Nat} {T : Nat} {n : Nat} {res : (Int32 × dk_S)} (X : dk_X p s m args meth c b_Diary_reaches 2 R_Diary (some .boolean) g A) (hR : dk_Ri p l e rm_Diary_reaches s m args below meth c g A Q 2 b_Diary_reaches (some .boolean) (wC g ad T) res)  {x1 : Int32} {S : dk_S}  (hF : B_Diary_reaches_0 n T  x1 S = some res) : dk_J p l e rm_Diary_reaches s m args below meth c g A Q 2 0 0 0 [(0, .ref (ad 5)), (1, .int x1)] [] (wC g ad T S) := by
  unfold B_Diary_reaches_0 at hF
  refine dk_iload_n (k := 1) (i := 1) X 1 rfl rfl d_Diary_reaches_0 ?_
  refine dk_if_lt (tgt := 16) X (by decide) d_Diary_reaches_1 hF (fun hF => ?_) (fun hF => ?_)
  · refine dk_iconst (v := 0) X (by decide) d_Diary_reaches_16 ?_
    exact dk_retz hR hF d_Diary_reaches_17
  · refine dk_iload_n (k := 1) (i := 1) X 1 rfl rfl d_Diary_reaches_4 ?_
    refine dk_aload_n (k := 0) (i := 0) X 0 rfl rfl d_Diary_reaches_5 ?_
    refine dk_get X q_Diary 5 6 (by decide) (oC_Diary g ad T S) rfl f_Diary_30 d_Diary_reaches_6 ?_
    refine dk_icmp_gt (tgt := 16) X (by decide) d_Diary_reaches_9 hF (fun hF => ?_) (fun hF => ?_)
    · refine dk_iconst (v := 0) X (by decide) d_Diary_reaches_16 ?_
      exact dk_retz hR hF d_Diary_reaches_17
    · refine dk_iconst (v := 1) X (by decide) d_Diary_reaches_12 ?_
      refine dk_goto (tgt := 17) X (by decide) d_Diary_reaches_13 ?_
      exact dk_retz hR hF d_Diary_reaches_17
def F_Diary_reaches (n T : Nat) (x1 : Int32) (S : dk_S) : Option (Int32 × dk_S) := B_Diary_reaches_0 n T x1 S
theorem c_Diary_reaches (l : Launch) (g : dk_G) (ad : Nat → Nat) (T n : Nat) (x1 : Int32)  (S : dk_S) : dk_Mi l g y_Diary_reaches b_Diary_reaches 2 rm_Diary_reaches (some .boolean) [.ref (ad 5), .int x1] (wC g ad T) S (F_Diary_reaches n T x1 S) := dk_enteri (by decide) (Nat.le_of_ble_eq_true rfl) (fun p e s m args below meth c A Q res hF X hR => (kb_Diary_reaches_0 (n := n) X hR  hF))
abbrev b_Diary_lastTime : ByteArray := prog_2_method_4_code
def y_Diary_lastTime : MethodName := ⟨R_Diary, "lastTime", "()I"⟩
theorem d_Diary_lastTime_0 : decode b_Diary_lastTime 0 = .ok (.aload_n 0, 1) := by decide +kernel
theorem d_Diary_lastTime_1 : decode b_Diary_lastTime 1 = .ok (.getfield 30, 3) := by decide +kernel
theorem d_Diary_lastTime_4 : decode b_Diary_lastTime 4 = .ok (.ifCond .ne 7, 3) := by decide +kernel
theorem d_Diary_lastTime_7 : decode b_Diary_lastTime 7 = .ok (.iconst 0, 1) := by decide +kernel
theorem d_Diary_lastTime_8 : decode b_Diary_lastTime 8 = .ok (.goto 14, 3) := by decide +kernel
theorem d_Diary_lastTime_11 : decode b_Diary_lastTime 11 = .ok (.aload_n 0, 1) := by decide +kernel
theorem d_Diary_lastTime_12 : decode b_Diary_lastTime 12 = .ok (.getfield 9, 3) := by decide +kernel
theorem d_Diary_lastTime_15 : decode b_Diary_lastTime 15 = .ok (.aload_n 0, 1) := by decide +kernel
theorem d_Diary_lastTime_16 : decode b_Diary_lastTime 16 = .ok (.getfield 30, 3) := by decide +kernel
theorem d_Diary_lastTime_19 : decode b_Diary_lastTime 19 = .ok (.iconst 1, 1) := by decide +kernel
theorem d_Diary_lastTime_20 : decode b_Diary_lastTime 20 = .ok (.isub, 1) := by decide +kernel
theorem d_Diary_lastTime_21 : decode b_Diary_lastTime 21 = .ok (.iaload, 1) := by decide +kernel
theorem d_Diary_lastTime_22 : decode b_Diary_lastTime 22 = .ok (.ireturn, 1) := by decide +kernel
theorem v_Diary_lastTime : dk_Yv y_Diary_lastTime b_Diary_lastTime 1 (some .int) 0 := ⟨dk_in (List.mem_of_getElem? (i := 442) (by decide +kernel)) rfl, dk_in (List.mem_of_getElem? (i := 443) (by decide +kernel)) rfl, dk_in (List.mem_of_getElem? (i := 68) (by decide +kernel)) rfl, dk_in (List.mem_of_getElem? (i := 444) (by decide +kernel)) rfl, by decide +kernel, by decide +kernel, by decide +kernel⟩
abbrev rm_Diary_lastTime : Room := { frames := 0, cells := 0, slots := 0, locals := 0 }
theorem f_Diary_9 : Cond.fieldLink R_Diary 9 (T_Diary 0).1 (T_Diary 0).2.1 (T_Diary 0).2.2.1 ∈ dk_tb := dk_in (List.mem_of_getElem? (i := 130) (by decide +kernel)) rfl
def B_Diary_lastTime_0 (n T : Nat)   (S : dk_S) : Option (Int32 × dk_S) :=
  if ¬ (S 104 0) = 0 then (dk_r 32 (S 6) ((S 104 0) - (1 : Int32)) fun v1 => some (v1, S)) else (some ((0 : Int32), S))
set_option maxRecDepth 20000 in
theorem kb_Diary_lastTime_0 {p : Program} {l : Launch} {e : Env} {s : State} {m : MethodId} {args : Array Value} {below : List Frame} {meth : Method} {c : Code} {g : dk_G} {A : Nat → Prop} {Q : State → Prop} {ad : Nat → Nat} {T : Nat} {n : Nat} {res : (Int32 × dk_S)} (X : dk_X p s m args meth c b_Diary_lastTime 1 R_Diary (some .int) g A) (hR : dk_Ri p l e rm_Diary_lastTime s m args below meth c g A Q 1 b_Diary_lastTime (some .int) (wC g ad T) res)   {S : dk_S}  (hF : B_Diary_lastTime_0 n T   S = some res) : dk_J p l e rm_Diary_lastTime s m args below meth c g A Q 1 0 0 0 [(0, .ref (ad 5))] [] (wC g ad T S) := by
  unfold B_Diary_lastTime_0 at hF
  refine dk_aload_n (k := 0) (i := 0) X 0 rfl rfl d_Diary_lastTime_0 ?_
  refine dk_get X q_Diary 5 6 (by decide) (oC_Diary g ad T S) rfl f_Diary_30 d_Diary_lastTime_1 ?_
  refine dk_if_ne (tgt := 11) X (by decide) d_Diary_lastTime_4 hF (fun hF => ?_) (fun hF => ?_)
  · refine dk_aload_n (k := 0) (i := 0) X 0 rfl rfl d_Diary_lastTime_11 ?_
    refine dk_get X q_Diary 5 0 (by decide) (oC_Diary g ad T S) rfl f_Diary_9 d_Diary_lastTime_12 ?_
    refine dk_aload_n (k := 0) (i := 0) X 0 rfl rfl d_Diary_lastTime_15 ?_
    refine dk_get X q_Diary 5 6 (by decide) (oC_Diary g ad T S) rfl f_Diary_30 d_Diary_lastTime_16 ?_
    refine dk_iconst (v := 1) X (by decide) d_Diary_lastTime_19 ?_
    refine dk_isub X d_Diary_lastTime_20 ?_
    refine dk_iald X 6 (aC_6 g ad T S) d_Diary_lastTime_21 hF (fun v1 hF => ?_)
    exact dk_reti hR hF d_Diary_lastTime_22
  · refine dk_iconst (v := 0) X (by decide) d_Diary_lastTime_7 ?_
    refine dk_goto (tgt := 22) X (by decide) d_Diary_lastTime_8 ?_
    exact dk_reti hR hF d_Diary_lastTime_22
def F_Diary_lastTime (n T : Nat)  (S : dk_S) : Option (Int32 × dk_S) := B_Diary_lastTime_0 n T  S
theorem c_Diary_lastTime (l : Launch) (g : dk_G) (ad : Nat → Nat) (T n : Nat)   (S : dk_S) : dk_Mi l g y_Diary_lastTime b_Diary_lastTime 1 rm_Diary_lastTime (some .int) [.ref (ad 5)] (wC g ad T) S (F_Diary_lastTime n T  S) := dk_enteri (by decide) (Nat.le_of_ble_eq_true rfl) (fun p e s m args below meth c A Q res hF X hR => (kb_Diary_lastTime_0 (n := n) X hR  hF))
abbrev b_Diary_countUnsure : ByteArray := prog_2_method_5_code
def y_Diary_countUnsure : MethodName := ⟨R_Diary, "countUnsure", "()I"⟩
theorem d_Diary_countUnsure_0 : decode b_Diary_countUnsure 0 = .ok (.iconst 0, 1) := by decide +kernel
theorem d_Diary_countUnsure_1 : decode b_Diary_countUnsure 1 = .ok (.istore_n 1, 1) := by decide +kernel
theorem d_Diary_countUnsure_2 : decode b_Diary_countUnsure 2 = .ok (.iconst 0, 1) := by decide +kernel
theorem d_Diary_countUnsure_3 : decode b_Diary_countUnsure 3 = .ok (.istore_n 2, 1) := by decide +kernel
theorem d_Diary_countUnsure_4 : decode b_Diary_countUnsure 4 = .ok (.iload_n 2, 1) := by decide +kernel
theorem d_Diary_countUnsure_5 : decode b_Diary_countUnsure 5 = .ok (.aload_n 0, 1) := by decide +kernel
theorem d_Diary_countUnsure_6 : decode b_Diary_countUnsure 6 = .ok (.getfield 30, 3) := by decide +kernel
theorem d_Diary_countUnsure_9 : decode b_Diary_countUnsure 9 = .ok (.if_icmp .ge 18, 3) := by decide +kernel
theorem d_Diary_countUnsure_12 : decode b_Diary_countUnsure 12 = .ok (.iload_n 1, 1) := by decide +kernel
theorem d_Diary_countUnsure_13 : decode b_Diary_countUnsure 13 = .ok (.aload_n 0, 1) := by decide +kernel
theorem d_Diary_countUnsure_14 : decode b_Diary_countUnsure 14 = .ok (.getfield 27, 3) := by decide +kernel
theorem d_Diary_countUnsure_17 : decode b_Diary_countUnsure 17 = .ok (.iload_n 2, 1) := by decide +kernel
theorem d_Diary_countUnsure_18 : decode b_Diary_countUnsure 18 = .ok (.iaload, 1) := by decide +kernel
theorem d_Diary_countUnsure_19 : decode b_Diary_countUnsure 19 = .ok (.iadd, 1) := by decide +kernel
theorem d_Diary_countUnsure_20 : decode b_Diary_countUnsure 20 = .ok (.istore_n 1, 1) := by decide +kernel
theorem d_Diary_countUnsure_21 : decode b_Diary_countUnsure 21 = .ok (.iinc 2 1, 3) := by decide +kernel
theorem d_Diary_countUnsure_24 : decode b_Diary_countUnsure 24 = .ok (.goto (-20), 3) := by decide +kernel
theorem d_Diary_countUnsure_27 : decode b_Diary_countUnsure 27 = .ok (.iload_n 1, 1) := by decide +kernel
theorem d_Diary_countUnsure_28 : decode b_Diary_countUnsure 28 = .ok (.ireturn, 1) := by decide +kernel
theorem v_Diary_countUnsure : dk_Yv y_Diary_countUnsure b_Diary_countUnsure 3 (some .int) 0 := ⟨dk_in (List.mem_of_getElem? (i := 466) (by decide +kernel)) rfl, dk_in (List.mem_of_getElem? (i := 467) (by decide +kernel)) rfl, dk_in (List.mem_of_getElem? (i := 68) (by decide +kernel)) rfl, dk_in (List.mem_of_getElem? (i := 468) (by decide +kernel)) rfl, by decide +kernel, by decide +kernel, by decide +kernel⟩
abbrev rm_Diary_countUnsure : Room := { frames := 0, cells := 0, slots := 0, locals := 0 }
theorem f_Diary_27 : Cond.fieldLink R_Diary 27 (T_Diary 5).1 (T_Diary 5).2.1 (T_Diary 5).2.2.1 ∈ dk_tb := dk_in (List.mem_of_getElem? (i := 145) (by decide +kernel)) rfl
def B_Diary_countUnsure_4b (n T : Nat) (k4 : Int32 → Int32 → dk_S → Option (Int32 × dk_S)) (x1 : Int32) (x2 : Int32) (S : dk_S) : Option (Int32 × dk_S) :=
  if (S 104 0) ≤ x2 then (some (x1, S)) else (dk_r 32 (S 11) x2 fun v1 => k4 (x1 + v1) (x2 + (1 : Int32)) S)
set_option maxRecDepth 20000 in
theorem kb_Diary_countUnsure_4b {p : Program} {l : Launch} {e : Env} {s : State} {m : MethodId} {args : Array Value} {below : List Frame} {meth : Method} {c : Code} {g : dk_G} {A : Nat → Prop} {Q : State → Prop} {ad : Nat → Nat} {T : Nat} {n : Nat} {res : (Int32 × dk_S)} (X : dk_X p s m args meth c b_Diary_countUnsure 3 R_Diary (some .int) g A) (hR : dk_Ri p l e rm_Diary_countUnsure s m args below meth c g A Q 3 b_Diary_countUnsure (some .int) (wC g ad T) res) {k4 : Int32 → Int32 → dk_S → Option (Int32 × dk_S)} (hk4 : ∀ (x1 : Int32) (x2 : Int32)  (S : dk_S), k4 x1 x2 S = some res → dk_J p l e rm_Diary_countUnsure s m args below meth c g A Q 3 0 0 4 [(0, .ref (ad 5)), (1, .int x1), (2, .int x2)] [] (wC g ad T S)) {x1 : Int32} {x2 : Int32} {S : dk_S}  (hF : B_Diary_countUnsure_4b n T k4 x1 x2 S = some res) : dk_J p l e rm_Diary_countUnsure s m args below meth c g A Q 3 0 0 4 [(0, .ref (ad 5)), (1, .int x1), (2, .int x2)] [] (wC g ad T S) := by
  unfold B_Diary_countUnsure_4b at hF
  refine dk_iload_n (k := 2) (i := 2) X 2 rfl rfl d_Diary_countUnsure_4 ?_
  refine dk_aload_n (k := 0) (i := 0) X 0 rfl rfl d_Diary_countUnsure_5 ?_
  refine dk_get X q_Diary 5 6 (by decide) (oC_Diary g ad T S) rfl f_Diary_30 d_Diary_countUnsure_6 ?_
  refine dk_icmp_ge (tgt := 27) X (by decide) d_Diary_countUnsure_9 hF (fun hF => ?_) (fun hF => ?_)
  · refine dk_iload_n (k := 1) (i := 1) X 1 rfl rfl d_Diary_countUnsure_27 ?_
    exact dk_reti hR hF d_Diary_countUnsure_28
  · refine dk_iload_n (k := 1) (i := 1) X 1 rfl rfl d_Diary_countUnsure_12 ?_
    refine dk_aload_n (k := 0) (i := 0) X 0 rfl rfl d_Diary_countUnsure_13 ?_
    refine dk_get X q_Diary 5 5 (by decide) (oC_Diary g ad T S) rfl f_Diary_27 d_Diary_countUnsure_14 ?_
    refine dk_iload_n (k := 2) (i := 2) X 2 rfl rfl d_Diary_countUnsure_17 ?_
    refine dk_iald X 11 (aC_11 g ad T S) d_Diary_countUnsure_18 hF (fun v1 hF => ?_)
    refine dk_iadd X d_Diary_countUnsure_19 ?_
    refine dk_istore_n (k := 1) (i := 1) (lv' := [(1, .int (x1 + v1)), (0, .ref (ad 5)), (2, .int x2)]) X rfl (by decide) rfl d_Diary_countUnsure_20 ?_
    refine dk_iinc (i := 2) (v := (x2 + (1 : Int32))) (lv' := [(2, .int (x2 + (1 : Int32))), (1, .int (x1 + v1)), (0, .ref (ad 5))]) X 2 rfl (dk_ii _ (by decide)) (by decide) rfl d_Diary_countUnsure_21 ?_
    refine dk_goto (tgt := 4) X (by decide) d_Diary_countUnsure_24 ?_
    exact dk_sub [2, 1, 0] rfl (hk4 (x1 + v1) (x2 + (1 : Int32)) S hF)
def B_Diary_countUnsure_4 (n T : Nat)  : Nat → Int32 → Int32 → dk_S → Option (Int32 × dk_S)
  | 0 => fun _ _ _ => none
  | q + 1 => fun x1 x2 S => B_Diary_countUnsure_4b n T (fun x1 x2 S => B_Diary_countUnsure_4 n T  q x1 x2 S) x1 x2 S
theorem kb_Diary_countUnsure_4 {p : Program} {l : Launch} {e : Env} {s : State} {m : MethodId} {args : Array Value} {below : List Frame} {meth : Method} {c : Code} {g : dk_G} {A : Nat → Prop} {Q : State → Prop} {ad : Nat → Nat} {T : Nat} {n : Nat} {res : (Int32 × dk_S)} (X : dk_X p s m args meth c b_Diary_countUnsure 3 R_Diary (some .int) g A) (hR : dk_Ri p l e rm_Diary_countUnsure s m args below meth c g A Q 3 b_Diary_countUnsure (some .int) (wC g ad T) res)  : ∀ (q : Nat) (x1 : Int32) (x2 : Int32)  (S : dk_S), B_Diary_countUnsure_4 n T  q x1 x2 S = some res → dk_J p l e rm_Diary_countUnsure s m args below meth c g A Q 3 0 0 4 [(0, .ref (ad 5)), (1, .int x1), (2, .int x2)] [] (wC g ad T S) := by
  intro q
  induction q with
  | zero => intro x1 x2  S hF; cases hF
  | succ q ih => intro x1 x2  S hF; exact kb_Diary_countUnsure_4b (n := n) X hR ih  hF
def B_Diary_countUnsure_0 (n T : Nat)   (S : dk_S) : Option (Int32 × dk_S) :=
  B_Diary_countUnsure_4 n T  n (0 : Int32) (0 : Int32) S
set_option maxRecDepth 20000 in
theorem kb_Diary_countUnsure_0 {p : Program} {l : Launch} {e : Env} {s : State} {m : MethodId} {args : Array Value} {below : List Frame} {meth : Method} {c : Code} {g : dk_G} {A : Nat → Prop} {Q : State → Prop} {ad : Nat → Nat} {T : Nat} {n : Nat} {res : (Int32 × dk_S)} (X : dk_X p s m args meth c b_Diary_countUnsure 3 R_Diary (some .int) g A) (hR : dk_Ri p l e rm_Diary_countUnsure s m args below meth c g A Q 3 b_Diary_countUnsure (some .int) (wC g ad T) res)   {S : dk_S}  (hF : B_Diary_countUnsure_0 n T   S = some res) : dk_J p l e rm_Diary_countUnsure s m args below meth c g A Q 3 0 0 0 [(0, .ref (ad 5))] [] (wC g ad T S) := by
  unfold B_Diary_countUnsure_0 at hF
  refine dk_iconst (v := 0) X (by decide) d_Diary_countUnsure_0 ?_
  refine dk_istore_n (k := 1) (i := 1) (lv' := [(1, .int (0 : Int32)), (0, .ref (ad 5))]) X rfl (by decide) rfl d_Diary_countUnsure_1 ?_
  refine dk_iconst (v := 0) X (by decide) d_Diary_countUnsure_2 ?_
  refine dk_istore_n (k := 2) (i := 2) (lv' := [(2, .int (0 : Int32)), (1, .int (0 : Int32)), (0, .ref (ad 5))]) X rfl (by decide) rfl d_Diary_countUnsure_3 ?_
  exact dk_sub [2, 1, 0] rfl (kb_Diary_countUnsure_4 (n := n) X hR  n (0 : Int32) (0 : Int32) S hF)
def F_Diary_countUnsure (n T : Nat)  (S : dk_S) : Option (Int32 × dk_S) := B_Diary_countUnsure_0 n T  S
theorem c_Diary_countUnsure (l : Launch) (g : dk_G) (ad : Nat → Nat) (T n : Nat)   (S : dk_S) : dk_Mi l g y_Diary_countUnsure b_Diary_countUnsure 3 rm_Diary_countUnsure (some .int) [.ref (ad 5)] (wC g ad T) S (F_Diary_countUnsure n T  S) := dk_enteri (by decide) (Nat.le_of_ble_eq_true rfl) (fun p e s m args below meth c A Q res hF X hR => (kb_Diary_countUnsure_0 (n := n) X hR  hF))
abbrev b_Diary_add : ByteArray := prog_2_method_6_code
def y_Diary_add : MethodName := ⟨R_Diary, "add", "(IIIII)I"⟩
theorem d_Diary_add_0 : decode b_Diary_add 0 = .ok (.aload_n 0, 1) := by decide +kernel
theorem d_Diary_add_1 : decode b_Diary_add 1 = .ok (.getfield 30, 3) := by decide +kernel
theorem d_Diary_add_4 : decode b_Diary_add 4 = .ok (.bipush 32, 2) := by decide +kernel
theorem d_Diary_add_6 : decode b_Diary_add 6 = .ok (.if_icmp .lt 6, 3) := by decide +kernel
theorem d_Diary_add_9 : decode b_Diary_add 9 = .ok (.bipush (-4), 2) := by decide +kernel
theorem d_Diary_add_11 : decode b_Diary_add 11 = .ok (.ireturn, 1) := by decide +kernel
theorem d_Diary_add_12 : decode b_Diary_add 12 = .ok (.aload_n 0, 1) := by decide +kernel
theorem d_Diary_add_13 : decode b_Diary_add 13 = .ok (.getfield 9, 3) := by decide +kernel
theorem d_Diary_add_16 : decode b_Diary_add 16 = .ok (.aload_n 0, 1) := by decide +kernel
theorem d_Diary_add_17 : decode b_Diary_add 17 = .ok (.getfield 30, 3) := by decide +kernel
theorem d_Diary_add_20 : decode b_Diary_add 20 = .ok (.iload_n 1, 1) := by decide +kernel
theorem d_Diary_add_21 : decode b_Diary_add 21 = .ok (.iastore, 1) := by decide +kernel
theorem d_Diary_add_22 : decode b_Diary_add 22 = .ok (.aload_n 0, 1) := by decide +kernel
theorem d_Diary_add_23 : decode b_Diary_add 23 = .ok (.getfield 15, 3) := by decide +kernel
theorem d_Diary_add_26 : decode b_Diary_add 26 = .ok (.aload_n 0, 1) := by decide +kernel
theorem d_Diary_add_27 : decode b_Diary_add 27 = .ok (.getfield 30, 3) := by decide +kernel
theorem d_Diary_add_30 : decode b_Diary_add 30 = .ok (.iload_n 2, 1) := by decide +kernel
theorem d_Diary_add_31 : decode b_Diary_add 31 = .ok (.iastore, 1) := by decide +kernel
theorem d_Diary_add_32 : decode b_Diary_add 32 = .ok (.aload_n 0, 1) := by decide +kernel
theorem d_Diary_add_33 : decode b_Diary_add 33 = .ok (.getfield 18, 3) := by decide +kernel
theorem d_Diary_add_36 : decode b_Diary_add 36 = .ok (.aload_n 0, 1) := by decide +kernel
theorem d_Diary_add_37 : decode b_Diary_add 37 = .ok (.getfield 30, 3) := by decide +kernel
theorem d_Diary_add_40 : decode b_Diary_add 40 = .ok (.iload_n 3, 1) := by decide +kernel
theorem d_Diary_add_41 : decode b_Diary_add 41 = .ok (.iastore, 1) := by decide +kernel
theorem d_Diary_add_42 : decode b_Diary_add 42 = .ok (.aload_n 0, 1) := by decide +kernel
theorem d_Diary_add_43 : decode b_Diary_add 43 = .ok (.getfield 21, 3) := by decide +kernel
theorem d_Diary_add_46 : decode b_Diary_add 46 = .ok (.aload_n 0, 1) := by decide +kernel
theorem d_Diary_add_47 : decode b_Diary_add 47 = .ok (.getfield 30, 3) := by decide +kernel
theorem d_Diary_add_50 : decode b_Diary_add 50 = .ok (.iload 4, 2) := by decide +kernel
theorem d_Diary_add_52 : decode b_Diary_add 52 = .ok (.iastore, 1) := by decide +kernel
theorem d_Diary_add_53 : decode b_Diary_add 53 = .ok (.aload_n 0, 1) := by decide +kernel
theorem d_Diary_add_54 : decode b_Diary_add 54 = .ok (.getfield 24, 3) := by decide +kernel
theorem d_Diary_add_57 : decode b_Diary_add 57 = .ok (.aload_n 0, 1) := by decide +kernel
theorem d_Diary_add_58 : decode b_Diary_add 58 = .ok (.getfield 30, 3) := by decide +kernel
theorem d_Diary_add_61 : decode b_Diary_add 61 = .ok (.iload 5, 2) := by decide +kernel
theorem d_Diary_add_63 : decode b_Diary_add 63 = .ok (.iastore, 1) := by decide +kernel
theorem d_Diary_add_64 : decode b_Diary_add 64 = .ok (.aload_n 0, 1) := by decide +kernel
theorem d_Diary_add_65 : decode b_Diary_add 65 = .ok (.getfield 27, 3) := by decide +kernel
theorem d_Diary_add_68 : decode b_Diary_add 68 = .ok (.aload_n 0, 1) := by decide +kernel
theorem d_Diary_add_69 : decode b_Diary_add 69 = .ok (.getfield 30, 3) := by decide +kernel
theorem d_Diary_add_72 : decode b_Diary_add 72 = .ok (.iconst 0, 1) := by decide +kernel
theorem d_Diary_add_73 : decode b_Diary_add 73 = .ok (.iastore, 1) := by decide +kernel
theorem d_Diary_add_74 : decode b_Diary_add 74 = .ok (.aload_n 0, 1) := by decide +kernel
theorem d_Diary_add_75 : decode b_Diary_add 75 = .ok (.dup, 1) := by decide +kernel
theorem d_Diary_add_76 : decode b_Diary_add 76 = .ok (.getfield 30, 3) := by decide +kernel
theorem d_Diary_add_79 : decode b_Diary_add 79 = .ok (.dup_x1, 1) := by decide +kernel
theorem d_Diary_add_80 : decode b_Diary_add 80 = .ok (.iconst 1, 1) := by decide +kernel
theorem d_Diary_add_81 : decode b_Diary_add 81 = .ok (.iadd, 1) := by decide +kernel
theorem d_Diary_add_82 : decode b_Diary_add 82 = .ok (.putfield 30, 3) := by decide +kernel
theorem d_Diary_add_85 : decode b_Diary_add 85 = .ok (.ireturn, 1) := by decide +kernel
theorem v_Diary_add : dk_Yv y_Diary_add b_Diary_add 6 (some .int) 5 := ⟨dk_in (List.mem_of_getElem? (i := 446) (by decide +kernel)) rfl, dk_in (List.mem_of_getElem? (i := 447) (by decide +kernel)) rfl, dk_in (List.mem_of_getElem? (i := 68) (by decide +kernel)) rfl, dk_in (List.mem_of_getElem? (i := 448) (by decide +kernel)) rfl, by decide +kernel, by decide +kernel, by decide +kernel⟩
abbrev rm_Diary_add : Room := { frames := 0, cells := 0, slots := 0, locals := 0 }
theorem f_Diary_15 : Cond.fieldLink R_Diary 15 (T_Diary 1).1 (T_Diary 1).2.1 (T_Diary 1).2.2.1 ∈ dk_tb := dk_in (List.mem_of_getElem? (i := 133) (by decide +kernel)) rfl
theorem f_Diary_18 : Cond.fieldLink R_Diary 18 (T_Diary 2).1 (T_Diary 2).2.1 (T_Diary 2).2.2.1 ∈ dk_tb := dk_in (List.mem_of_getElem? (i := 136) (by decide +kernel)) rfl
theorem f_Diary_21 : Cond.fieldLink R_Diary 21 (T_Diary 3).1 (T_Diary 3).2.1 (T_Diary 3).2.2.1 ∈ dk_tb := dk_in (List.mem_of_getElem? (i := 139) (by decide +kernel)) rfl
theorem f_Diary_24 : Cond.fieldLink R_Diary 24 (T_Diary 4).1 (T_Diary 4).2.1 (T_Diary 4).2.2.1 ∈ dk_tb := dk_in (List.mem_of_getElem? (i := 142) (by decide +kernel)) rfl
def B_Diary_add_0 (n T : Nat)  (x1 : Int32) (x2 : Int32) (x3 : Int32) (x4 : Int32) (x5 : Int32) (S : dk_S) : Option (Int32 × dk_S) :=
  if (S 104 0) < (32 : Int32) then (dk_w S 6 32 (S 104 0) x1 fun S1 => dk_w S1 7 32 (S1 104 0) x2 fun S2 => dk_w S2 8 32 (S2 104 0) x3 fun S3 => dk_w S3 9 32 (S3 104 0) x4 fun S4 => dk_w S4 10 32 (S4 104 0) x5 fun S5 => dk_w S5 11 32 (S5 104 0) (0 : Int32) fun S6 => dk_p S6 104 ((S6 104 0) + (1 : Int32)) fun S7 => some ((S6 104 0), S7)) else (some ((-4 : Int32), S))
set_option maxRecDepth 20000 in
theorem kb_Diary_add_0 {p : Program} {l : Launch} {e : Env} {s : State} {m : MethodId} {args : Array Value} {below : List Frame} {meth : Method} {c : Code} {g : dk_G} {A : Nat → Prop} {Q : State → Prop} {ad : Nat → Nat} {T : Nat} {n : Nat} {res : (Int32 × dk_S)} (X : dk_X p s m args meth c b_Diary_add 6 R_Diary (some .int) g A) (hR : dk_Ri p l e rm_Diary_add s m args below meth c g A Q 6 b_Diary_add (some .int) (wC g ad T) res)  {x1 : Int32} {x2 : Int32} {x3 : Int32} {x4 : Int32} {x5 : Int32} {S : dk_S}  (hF : B_Diary_add_0 n T  x1 x2 x3 x4 x5 S = some res) : dk_J p l e rm_Diary_add s m args below meth c g A Q 6 0 0 0 [(0, .ref (ad 5)), (1, .int x1), (2, .int x2), (3, .int x3), (4, .int x4), (5, .int x5)] [] (wC g ad T S) := by
  unfold B_Diary_add_0 at hF
  refine dk_aload_n (k := 0) (i := 0) X 0 rfl rfl d_Diary_add_0 ?_
  refine dk_get X q_Diary 5 6 (by decide) (oC_Diary g ad T S) rfl f_Diary_30 d_Diary_add_1 ?_
  refine dk_bipush (v := 32) X (by decide) d_Diary_add_4 ?_
  refine dk_icmp_lt (tgt := 12) X (by decide) d_Diary_add_6 hF (fun hF => ?_) (fun hF => ?_)
  · refine dk_aload_n (k := 0) (i := 0) X 0 rfl rfl d_Diary_add_12 ?_
    refine dk_get X q_Diary 5 0 (by decide) (oC_Diary g ad T S) rfl f_Diary_9 d_Diary_add_13 ?_
    refine dk_aload_n (k := 0) (i := 0) X 0 rfl rfl d_Diary_add_16 ?_
    refine dk_get X q_Diary 5 6 (by decide) (oC_Diary g ad T S) rfl f_Diary_30 d_Diary_add_17 ?_
    refine dk_iload_n (k := 1) (i := 1) X 1 rfl rfl d_Diary_add_20 ?_
    refine dk_iast X 6 (aC_6 g ad T S) (sC_6 g ad T S _ _) d_Diary_add_21 hF (fun S1 hF => ?_)
    refine dk_aload_n (k := 0) (i := 0) X 0 rfl rfl d_Diary_add_22 ?_
    refine dk_get X q_Diary 5 1 (by decide) (oC_Diary g ad T S1) rfl f_Diary_15 d_Diary_add_23 ?_
    refine dk_aload_n (k := 0) (i := 0) X 0 rfl rfl d_Diary_add_26 ?_
    refine dk_get X q_Diary 5 6 (by decide) (oC_Diary g ad T S1) rfl f_Diary_30 d_Diary_add_27 ?_
    refine dk_iload_n (k := 2) (i := 2) X 2 rfl rfl d_Diary_add_30 ?_
    refine dk_iast X 7 (aC_7 g ad T S1) (sC_7 g ad T S1 _ _) d_Diary_add_31 hF (fun S2 hF => ?_)
    refine dk_aload_n (k := 0) (i := 0) X 0 rfl rfl d_Diary_add_32 ?_
    refine dk_get X q_Diary 5 2 (by decide) (oC_Diary g ad T S2) rfl f_Diary_18 d_Diary_add_33 ?_
    refine dk_aload_n (k := 0) (i := 0) X 0 rfl rfl d_Diary_add_36 ?_
    refine dk_get X q_Diary 5 6 (by decide) (oC_Diary g ad T S2) rfl f_Diary_30 d_Diary_add_37 ?_
    refine dk_iload_n (k := 3) (i := 3) X 3 rfl rfl d_Diary_add_40 ?_
    refine dk_iast X 8 (aC_8 g ad T S2) (sC_8 g ad T S2 _ _) d_Diary_add_41 hF (fun S3 hF => ?_)
    refine dk_aload_n (k := 0) (i := 0) X 0 rfl rfl d_Diary_add_42 ?_
    refine dk_get X q_Diary 5 3 (by decide) (oC_Diary g ad T S3) rfl f_Diary_21 d_Diary_add_43 ?_
    refine dk_aload_n (k := 0) (i := 0) X 0 rfl rfl d_Diary_add_46 ?_
    refine dk_get X q_Diary 5 6 (by decide) (oC_Diary g ad T S3) rfl f_Diary_30 d_Diary_add_47 ?_
    refine dk_iload (i := 4) X 4 rfl d_Diary_add_50 ?_
    refine dk_iast X 9 (aC_9 g ad T S3) (sC_9 g ad T S3 _ _) d_Diary_add_52 hF (fun S4 hF => ?_)
    refine dk_aload_n (k := 0) (i := 0) X 0 rfl rfl d_Diary_add_53 ?_
    refine dk_get X q_Diary 5 4 (by decide) (oC_Diary g ad T S4) rfl f_Diary_24 d_Diary_add_54 ?_
    refine dk_aload_n (k := 0) (i := 0) X 0 rfl rfl d_Diary_add_57 ?_
    refine dk_get X q_Diary 5 6 (by decide) (oC_Diary g ad T S4) rfl f_Diary_30 d_Diary_add_58 ?_
    refine dk_iload (i := 5) X 5 rfl d_Diary_add_61 ?_
    refine dk_iast X 10 (aC_10 g ad T S4) (sC_10 g ad T S4 _ _) d_Diary_add_63 hF (fun S5 hF => ?_)
    refine dk_aload_n (k := 0) (i := 0) X 0 rfl rfl d_Diary_add_64 ?_
    refine dk_get X q_Diary 5 5 (by decide) (oC_Diary g ad T S5) rfl f_Diary_27 d_Diary_add_65 ?_
    refine dk_aload_n (k := 0) (i := 0) X 0 rfl rfl d_Diary_add_68 ?_
    refine dk_get X q_Diary 5 6 (by decide) (oC_Diary g ad T S5) rfl f_Diary_30 d_Diary_add_69 ?_
    refine dk_iconst (v := 0) X (by decide) d_Diary_add_72 ?_
    refine dk_iast X 11 (aC_11 g ad T S5) (sC_11 g ad T S5 _ _) d_Diary_add_73 hF (fun S6 hF => ?_)
    refine dk_aload_n (k := 0) (i := 0) X 0 rfl rfl d_Diary_add_74 ?_
    refine dk_dup X rfl d_Diary_add_75 ?_
    refine dk_get X q_Diary 5 6 (by decide) (oC_Diary g ad T S6) rfl f_Diary_30 d_Diary_add_76 ?_
    refine dk_dup_x1 X rfl rfl d_Diary_add_79 ?_
    refine dk_iconst (v := 1) X (by decide) d_Diary_add_80 ?_
    refine dk_iadd X d_Diary_add_81 ?_
    refine dk_puti X q_Diary 5 6 (by decide) (oC_Diary g ad T S6) f_Diary_30 rfl rfl (Nat.le_of_ble_eq_true rfl) (sC_Diary_size g ad T S6 _) d_Diary_add_82 hF (fun S7 hF => ?_)
    exact dk_reti hR hF d_Diary_add_85
  · refine dk_bipush (v := -4) X (by decide) d_Diary_add_9 ?_
    exact dk_reti hR hF d_Diary_add_11
def F_Diary_add (n T : Nat) (x1 : Int32) (x2 : Int32) (x3 : Int32) (x4 : Int32) (x5 : Int32) (S : dk_S) : Option (Int32 × dk_S) := B_Diary_add_0 n T x1 x2 x3 x4 x5 S
theorem c_Diary_add (l : Launch) (g : dk_G) (ad : Nat → Nat) (T n : Nat) (x1 : Int32) (x2 : Int32) (x3 : Int32) (x4 : Int32) (x5 : Int32)  (S : dk_S) : dk_Mi l g y_Diary_add b_Diary_add 6 rm_Diary_add (some .int) [.ref (ad 5), .int x1, .int x2, .int x3, .int x4, .int x5] (wC g ad T) S (F_Diary_add n T x1 x2 x3 x4 x5 S) := dk_enteri (by decide) (Nat.le_of_ble_eq_true rfl) (fun p e s m args below meth c A Q res hF X hR => (kb_Diary_add_0 (n := n) X hR  hF))
abbrev b_Diary_dropLast : ByteArray := prog_2_method_7_code
def y_Diary_dropLast : MethodName := ⟨R_Diary, "dropLast", "()I"⟩
theorem d_Diary_dropLast_0 : decode b_Diary_dropLast 0 = .ok (.aload_n 0, 1) := by decide +kernel
theorem d_Diary_dropLast_1 : decode b_Diary_dropLast 1 = .ok (.getfield 30, 3) := by decide +kernel
theorem d_Diary_dropLast_4 : decode b_Diary_dropLast 4 = .ok (.ifCond .ne 6, 3) := by decide +kernel
theorem d_Diary_dropLast_7 : decode b_Diary_dropLast 7 = .ok (.bipush (-3), 2) := by decide +kernel
theorem d_Diary_dropLast_9 : decode b_Diary_dropLast 9 = .ok (.ireturn, 1) := by decide +kernel
theorem d_Diary_dropLast_10 : decode b_Diary_dropLast 10 = .ok (.aload_n 0, 1) := by decide +kernel
theorem d_Diary_dropLast_11 : decode b_Diary_dropLast 11 = .ok (.dup, 1) := by decide +kernel
theorem d_Diary_dropLast_12 : decode b_Diary_dropLast 12 = .ok (.getfield 30, 3) := by decide +kernel
theorem d_Diary_dropLast_15 : decode b_Diary_dropLast 15 = .ok (.iconst 1, 1) := by decide +kernel
theorem d_Diary_dropLast_16 : decode b_Diary_dropLast 16 = .ok (.isub, 1) := by decide +kernel
theorem d_Diary_dropLast_17 : decode b_Diary_dropLast 17 = .ok (.putfield 30, 3) := by decide +kernel
theorem d_Diary_dropLast_20 : decode b_Diary_dropLast 20 = .ok (.aload_n 0, 1) := by decide +kernel
theorem d_Diary_dropLast_21 : decode b_Diary_dropLast 21 = .ok (.getfield 15, 3) := by decide +kernel
theorem d_Diary_dropLast_24 : decode b_Diary_dropLast 24 = .ok (.aload_n 0, 1) := by decide +kernel
theorem d_Diary_dropLast_25 : decode b_Diary_dropLast 25 = .ok (.getfield 30, 3) := by decide +kernel
theorem d_Diary_dropLast_28 : decode b_Diary_dropLast 28 = .ok (.iaload, 1) := by decide +kernel
theorem d_Diary_dropLast_29 : decode b_Diary_dropLast 29 = .ok (.ireturn, 1) := by decide +kernel
theorem v_Diary_dropLast : dk_Yv y_Diary_dropLast b_Diary_dropLast 1 (some .int) 0 := ⟨dk_in (List.mem_of_getElem? (i := 454) (by decide +kernel)) rfl, dk_in (List.mem_of_getElem? (i := 455) (by decide +kernel)) rfl, dk_in (List.mem_of_getElem? (i := 68) (by decide +kernel)) rfl, dk_in (List.mem_of_getElem? (i := 456) (by decide +kernel)) rfl, by decide +kernel, by decide +kernel, by decide +kernel⟩
abbrev rm_Diary_dropLast : Room := { frames := 0, cells := 0, slots := 0, locals := 0 }
def B_Diary_dropLast_0 (n T : Nat)   (S : dk_S) : Option (Int32 × dk_S) :=
  if ¬ (S 104 0) = 0 then (dk_p S 104 ((S 104 0) - (1 : Int32)) fun S1 => dk_r 32 (S1 7) (S1 104 0) fun v2 => some (v2, S1)) else (some ((-3 : Int32), S))
set_option maxRecDepth 20000 in
theorem kb_Diary_dropLast_0 {p : Program} {l : Launch} {e : Env} {s : State} {m : MethodId} {args : Array Value} {below : List Frame} {meth : Method} {c : Code} {g : dk_G} {A : Nat → Prop} {Q : State → Prop} {ad : Nat → Nat} {T : Nat} {n : Nat} {res : (Int32 × dk_S)} (X : dk_X p s m args meth c b_Diary_dropLast 1 R_Diary (some .int) g A) (hR : dk_Ri p l e rm_Diary_dropLast s m args below meth c g A Q 1 b_Diary_dropLast (some .int) (wC g ad T) res)   {S : dk_S}  (hF : B_Diary_dropLast_0 n T   S = some res) : dk_J p l e rm_Diary_dropLast s m args below meth c g A Q 1 0 0 0 [(0, .ref (ad 5))] [] (wC g ad T S) := by
  unfold B_Diary_dropLast_0 at hF
  refine dk_aload_n (k := 0) (i := 0) X 0 rfl rfl d_Diary_dropLast_0 ?_
  refine dk_get X q_Diary 5 6 (by decide) (oC_Diary g ad T S) rfl f_Diary_30 d_Diary_dropLast_1 ?_
  refine dk_if_ne (tgt := 10) X (by decide) d_Diary_dropLast_4 hF (fun hF => ?_) (fun hF => ?_)
  · refine dk_aload_n (k := 0) (i := 0) X 0 rfl rfl d_Diary_dropLast_10 ?_
    refine dk_dup X rfl d_Diary_dropLast_11 ?_
    refine dk_get X q_Diary 5 6 (by decide) (oC_Diary g ad T S) rfl f_Diary_30 d_Diary_dropLast_12 ?_
    refine dk_iconst (v := 1) X (by decide) d_Diary_dropLast_15 ?_
    refine dk_isub X d_Diary_dropLast_16 ?_
    refine dk_puti X q_Diary 5 6 (by decide) (oC_Diary g ad T S) f_Diary_30 rfl rfl (Nat.le_of_ble_eq_true rfl) (sC_Diary_size g ad T S _) d_Diary_dropLast_17 hF (fun S1 hF => ?_)
    refine dk_aload_n (k := 0) (i := 0) X 0 rfl rfl d_Diary_dropLast_20 ?_
    refine dk_get X q_Diary 5 1 (by decide) (oC_Diary g ad T S1) rfl f_Diary_15 d_Diary_dropLast_21 ?_
    refine dk_aload_n (k := 0) (i := 0) X 0 rfl rfl d_Diary_dropLast_24 ?_
    refine dk_get X q_Diary 5 6 (by decide) (oC_Diary g ad T S1) rfl f_Diary_30 d_Diary_dropLast_25 ?_
    refine dk_iald X 7 (aC_7 g ad T S1) d_Diary_dropLast_28 hF (fun v2 hF => ?_)
    exact dk_reti hR hF d_Diary_dropLast_29
  · refine dk_bipush (v := -3) X (by decide) d_Diary_dropLast_7 ?_
    exact dk_reti hR hF d_Diary_dropLast_9
def F_Diary_dropLast (n T : Nat)  (S : dk_S) : Option (Int32 × dk_S) := B_Diary_dropLast_0 n T  S
theorem c_Diary_dropLast (l : Launch) (g : dk_G) (ad : Nat → Nat) (T n : Nat)   (S : dk_S) : dk_Mi l g y_Diary_dropLast b_Diary_dropLast 1 rm_Diary_dropLast (some .int) [.ref (ad 5)] (wC g ad T) S (F_Diary_dropLast n T  S) := dk_enteri (by decide) (Nat.le_of_ble_eq_true rfl) (fun p e s m args below meth c A Q res hF X hR => (kb_Diary_dropLast_0 (n := n) X hR  hF))
