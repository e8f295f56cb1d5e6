abbrev b_Model_hangs : ByteArray := prog_11_method_56_code
def y_Model_hangs : MethodName := ⟨R_Model, "hangs", "(I)I"⟩
theorem d_Model_hangs_0 : decode b_Model_hangs 0 = .ok (.aload_n 0, 1) := by decide +kernel
theorem d_Model_hangs_1 : decode b_Model_hangs 1 = .ok (.iload_n 1, 1) := by decide +kernel
theorem d_Model_hangs_2 : decode b_Model_hangs 2 = .ok (.invokevirtual 158, 3) := by decide +kernel
theorem d_Model_hangs_5 : decode b_Model_hangs 5 = .ok (.ifCond .ne 6, 3) := by decide +kernel
theorem d_Model_hangs_8 : decode b_Model_hangs 8 = .ok (.bipush (-5), 2) := by decide +kernel
theorem d_Model_hangs_10 : decode b_Model_hangs 10 = .ok (.ireturn, 1) := by decide +kernel
theorem d_Model_hangs_11 : decode b_Model_hangs 11 = .ok (.aload_n 0, 1) := by decide +kernel
theorem d_Model_hangs_12 : decode b_Model_hangs 12 = .ok (.iload_n 1, 1) := by decide +kernel
theorem d_Model_hangs_13 : decode b_Model_hangs 13 = .ok (.iconst 0, 1) := by decide +kernel
theorem d_Model_hangs_14 : decode b_Model_hangs 14 = .ok (.invokevirtual 293, 3) := by decide +kernel
theorem d_Model_hangs_17 : decode b_Model_hangs 17 = .ok (.istore_n 2, 1) := by decide +kernel
theorem d_Model_hangs_18 : decode b_Model_hangs 18 = .ok (.iconst 0, 1) := by decide +kernel
theorem d_Model_hangs_19 : decode b_Model_hangs 19 = .ok (.istore_n 3, 1) := by decide +kernel
theorem d_Model_hangs_20 : decode b_Model_hangs 20 = .ok (.iconst 0, 1) := by decide +kernel
theorem d_Model_hangs_21 : decode b_Model_hangs 21 = .ok (.istore 4, 2) := by decide +kernel
theorem d_Model_hangs_23 : decode b_Model_hangs 23 = .ok (.iload 4, 2) := by decide +kernel
theorem d_Model_hangs_25 : decode b_Model_hangs 25 = .ok (.aload_n 0, 1) := by decide +kernel
theorem d_Model_hangs_26 : decode b_Model_hangs 26 = .ok (.invokevirtual 164, 3) := by decide +kernel
theorem d_Model_hangs_29 : decode b_Model_hangs 29 = .ok (.if_icmp .ge 33, 3) := by decide +kernel
theorem d_Model_hangs_32 : decode b_Model_hangs 32 = .ok (.iload_n 3, 1) := by decide +kernel
theorem d_Model_hangs_33 : decode b_Model_hangs 33 = .ok (.aload_n 0, 1) := by decide +kernel
theorem d_Model_hangs_34 : decode b_Model_hangs 34 = .ok (.iload_n 1, 1) := by decide +kernel
theorem d_Model_hangs_35 : decode b_Model_hangs 35 = .ok (.iconst 1, 1) := by decide +kernel
theorem d_Model_hangs_36 : decode b_Model_hangs 36 = .ok (.iload 4, 2) := by decide +kernel
theorem d_Model_hangs_38 : decode b_Model_hangs 38 = .ok (.ishl, 1) := by decide +kernel
theorem d_Model_hangs_39 : decode b_Model_hangs 39 = .ok (.invokevirtual 293, 3) := by decide +kernel
theorem d_Model_hangs_42 : decode b_Model_hangs 42 = .ok (.iload_n 2, 1) := by decide +kernel
theorem d_Model_hangs_43 : decode b_Model_hangs 43 = .ok (.if_icmp .ne 7, 3) := by decide +kernel
theorem d_Model_hangs_46 : decode b_Model_hangs 46 = .ok (.iconst 0, 1) := by decide +kernel
theorem d_Model_hangs_47 : decode b_Model_hangs 47 = .ok (.goto 7, 3) := by decide +kernel
theorem d_Model_hangs_50 : decode b_Model_hangs 50 = .ok (.iconst 1, 1) := by decide +kernel
theorem d_Model_hangs_51 : decode b_Model_hangs 51 = .ok (.iload 4, 2) := by decide +kernel
theorem d_Model_hangs_53 : decode b_Model_hangs 53 = .ok (.ishl, 1) := by decide +kernel
theorem d_Model_hangs_54 : decode b_Model_hangs 54 = .ok (.ior, 1) := by decide +kernel
theorem d_Model_hangs_55 : decode b_Model_hangs 55 = .ok (.istore_n 3, 1) := by decide +kernel
theorem d_Model_hangs_56 : decode b_Model_hangs 56 = .ok (.iinc 4 1, 3) := by decide +kernel
theorem d_Model_hangs_59 : decode b_Model_hangs 59 = .ok (.goto (-36), 3) := by decide +kernel
theorem d_Model_hangs_62 : decode b_Model_hangs 62 = .ok (.iload_n 3, 1) := by decide +kernel
theorem d_Model_hangs_63 : decode b_Model_hangs 63 = .ok (.ireturn, 1) := by decide +kernel
theorem v_Model_hangs : dk_Yv y_Model_hangs b_Model_hangs 5 (some .int) 1 := ⟨dk_in (List.mem_of_getElem? (i := 1327) (by decide +kernel)) rfl, dk_in (List.mem_of_getElem? (i := 1328) (by decide +kernel)) rfl, dk_in (List.mem_of_getElem? (i := 75) (by decide +kernel)) rfl, dk_in (List.mem_of_getElem? (i := 1329) (by decide +kernel)) rfl, by decide +kernel, by decide +kernel, by decide +kernel⟩
abbrev rm_Model_hangs : Room := { frames := 7, cells := 0, slots := 0, locals := 160 }
def B_Model_hangs_54 (n : Nat) (k23 : Int32 → Int32 → Int32 → Int32 → dk_S → Option (Int32 × dk_S)) (x1 : Int32) (x2 : Int32) (x4 : Int32) (u0 : Int32) (u1 : Int32) (S : dk_S) : Option (Int32 × dk_S) :=
  k23 x1 x2 (u0 ||| u1) (x4 + (1 : Int32)) S
set_option maxRecDepth 20000 in
theorem kb_Model_hangs_54 {p : Program} {l : Launch} {e : Env} {s : State} {m : MethodId} {args : Array Value} {below : List Frame} {meth : Method} {c : Code} {g : dk_G} {A : Nat → Prop} {Q : State → Prop} {am : Nat → Nat} {n : Nat} {res : (Int32 × dk_S)} (X : dk_X p s m args meth c b_Model_hangs 5 R_Model (some .int) g A) (hR : dk_Ri p l e rm_Model_hangs s m args below meth c g A Q 5 b_Model_hangs (some .int) (wM g am) res) {k23 : Int32 → Int32 → Int32 → Int32 → dk_S → Option (Int32 × dk_S)} (hk23 : ∀ (x1 : Int32) (x2 : Int32) (x3 : Int32) (x4 : Int32)  (S : dk_S), k23 x1 x2 x3 x4 S = some res → dk_J p l e rm_Model_hangs s m args below meth c g A Q 5 0 0 23 [(0, .ref (am 0)), (1, .int x1), (2, .int x2), (3, .int x3), (4, .int x4)] [] (wM g am S)) {x1 : Int32} {x2 : Int32} {x4 : Int32} {u0 : Int32} {u1 : Int32} {S : dk_S}  (hF : B_Model_hangs_54 n k23 x1 x2 x4 u0 u1 S = some res) : dk_J p l e rm_Model_hangs s m args below meth c g A Q 5 0 0 54 [(0, .ref (am 0)), (1, .int x1), (2, .int x2), (4, .int x4)] [.int u1, .int u0] (wM g am S) := by
  unfold B_Model_hangs_54 at hF
  refine dk_ior X d_Model_hangs_54 ?_
  refine dk_istore_n (k := 3) (i := 3) (lv' := [(3, .int (u0 ||| u1)), (0, .ref (am 0)), (1, .int x1), (2, .int x2), (4, .int x4)]) X rfl (by decide) rfl d_Model_hangs_55 ?_
  refine dk_iinc (i := 4) (v := (x4 + (1 : Int32))) (lv' := [(4, .int (x4 + (1 : Int32))), (3, .int (u0 ||| u1)), (0, .ref (am 0)), (1, .int x1), (2, .int x2)]) X 4 rfl (dk_ii _ (by decide)) (by decide) rfl d_Model_hangs_56 ?_
  refine dk_goto (tgt := 23) X (by decide) d_Model_hangs_59 ?_
  exact dk_sub [2, 3, 4, 1, 0] rfl (hk23 x1 x2 (u0 ||| u1) (x4 + (1 : Int32)) S hF)
def B_Model_hangs_23b (n : Nat) (k23 : Int32 → Int32 → Int32 → Int32 → dk_S → Option (Int32 × dk_S)) (x1 : Int32) (x2 : Int32) (x3 : Int32) (x4 : Int32) (S : dk_S) : Option (Int32 × dk_S) :=
  dk_c (F_Model_unsureMany n S) fun r2 S1 => if r2 ≤ x4 then (some (x3, S1)) else (dk_c (F_Model_whoseWithout n x1 ((1 : Int32) <<< (x4 &&& 31)) S1) fun r4 S3 => if ¬ r4 = x2 then (B_Model_hangs_54 n k23 x1 x2 x4 x3 ((1 : Int32) <<< (x4 &&& 31)) S3) else (B_Model_hangs_54 n k23 x1 x2 x4 x3 (0 : Int32) S3))
set_option maxRecDepth 20000 in
theorem kb_Model_hangs_23b {p : Program} {l : Launch} {e : Env} {s : State} {m : MethodId} {args : Array Value} {below : List Frame} {meth : Method} {c : Code} {g : dk_G} {A : Nat → Prop} {Q : State → Prop} {am : Nat → Nat} {n : Nat} {res : (Int32 × dk_S)} (X : dk_X p s m args meth c b_Model_hangs 5 R_Model (some .int) g A) (hR : dk_Ri p l e rm_Model_hangs s m args below meth c g A Q 5 b_Model_hangs (some .int) (wM g am) res) {k23 : Int32 → Int32 → Int32 → Int32 → dk_S → Option (Int32 × dk_S)} (hk23 : ∀ (x1 : Int32) (x2 : Int32) (x3 : Int32) (x4 : Int32)  (S : dk_S), k23 x1 x2 x3 x4 S = some res → dk_J p l e rm_Model_hangs s m args below meth c g A Q 5 0 0 23 [(0, .ref (am 0)), (1, .int x1), (2, .int x2), (3, .int x3), (4, .int x4)] [] (wM g am S)) {x1 : Int32} {x2 : Int32} {x3 : Int32} {x4 : Int32} {S : dk_S}  (hF : B_Model_hangs_23b n k23 x1 x2 x3 x4 S = some res) : dk_J p l e rm_Model_hangs s m args below meth c g A Q 5 0 0 23 [(0, .ref (am 0)), (1, .int x1), (2, .int x2), (3, .int x3), (4, .int x4)] [] (wM g am S) := by
  unfold B_Model_hangs_23b at hF
  refine dk_iload (i := 4) X 4 rfl d_Model_hangs_23 ?_
  refine dk_aload_n (k := 0) (i := 0) X 0 rfl rfl d_Model_hangs_25 ?_
  refine dk_callVi X v_Model_unsureMany [] (c_Model_unsureMany l g am n S) 0 (oM_Model g am S) rfl rfl m_Model_164 rfl rfl ⟨rfl, rfl, Nat.le_of_ble_eq_true rfl, Nat.le_of_ble_eq_true rfl, Nat.le_refl _, Nat.le_refl _⟩ (Nat.le_of_ble_eq_true rfl) d_Model_hangs_26 hF (fun r2 S1 hF => ?_)
  refine dk_icmp_ge (tgt := 62) X (by decide) d_Model_hangs_29 hF (fun hF => ?_) (fun hF => ?_)
  · refine dk_iload_n (k := 3) (i := 3) X 3 rfl rfl d_Model_hangs_62 ?_
    exact dk_reti hR hF d_Model_hangs_63
  · refine dk_iload_n (k := 3) (i := 3) X 3 rfl rfl d_Model_hangs_32 ?_
    refine dk_aload_n (k := 0) (i := 0) X 0 rfl rfl d_Model_hangs_33 ?_
    refine dk_iload_n (k := 1) (i := 1) X 1 rfl rfl d_Model_hangs_34 ?_
    refine dk_iconst (v := 1) X (by decide) d_Model_hangs_35 ?_
    refine dk_iload (i := 4) X 4 rfl d_Model_hangs_36 ?_
    refine dk_ishl X d_Model_hangs_38 ?_
    refine dk_callVi X v_Model_whoseWithout [.int x1, .int ((1 : Int32) <<< (x4 &&& 31))] (c_Model_whoseWithout l g am n x1 ((1 : Int32) <<< (x4 &&& 31)) S1) 0 (oM_Model g am S1) rfl rfl m_Model_293 rfl rfl ⟨rfl, rfl, Nat.le_of_ble_eq_true rfl, Nat.le_of_ble_eq_true rfl, Nat.le_refl _, Nat.le_refl _⟩ (Nat.le_of_ble_eq_true rfl) d_Model_hangs_39 hF (fun r4 S3 hF => ?_)
    refine dk_iload_n (k := 2) (i := 2) X 2 rfl rfl d_Model_hangs_42 ?_
    refine dk_icmp_ne (tgt := 50) X (by decide) d_Model_hangs_43 hF (fun hF => ?_) (fun hF => ?_)
    · refine dk_iconst (v := 1) X (by decide) d_Model_hangs_50 ?_
      refine dk_iload (i := 4) X 4 rfl d_Model_hangs_51 ?_
      refine dk_ishl X d_Model_hangs_53 ?_
      exact dk_sub [0, 1, 2, 4] rfl (kb_Model_hangs_54 (n := n) X hR hk23  hF)
    · refine dk_iconst (v := 0) X (by decide) d_Model_hangs_46 ?_
      refine dk_goto (tgt := 54) X (by decide) d_Model_hangs_47 ?_
      exact dk_sub [0, 1, 2, 4] rfl (kb_Model_hangs_54 (n := n) X hR hk23  hF)
def B_Model_hangs_23 (n : Nat)  : Nat → Int32 → Int32 → Int32 → Int32 → dk_S → Option (Int32 × dk_S)
  | 0 => fun _ _ _ _ _ => none
  | q + 1 => fun x1 x2 x3 x4 S => B_Model_hangs_23b n (fun x1 x2 x3 x4 S => B_Model_hangs_23 n  q x1 x2 x3 x4 S) x1 x2 x3 x4 S
theorem kb_Model_hangs_23 {p : Program} {l : Launch} {e : Env} {s : State} {m : MethodId} {args : Array Value} {below : List Frame} {meth : Method} {c : Code} {g : dk_G} {A : Nat → Prop} {Q : State → Prop} {am : Nat → Nat} {n : Nat} {res : (Int32 × dk_S)} (X : dk_X p s m args meth c b_Model_hangs 5 R_Model (some .int) g A) (hR : dk_Ri p l e rm_Model_hangs s m args below meth c g A Q 5 b_Model_hangs (some .int) (wM g am) res)  : ∀ (q : Nat) (x1 : Int32) (x2 : Int32) (x3 : Int32) (x4 : Int32)  (S : dk_S), B_Model_hangs_23 n  q x1 x2 x3 x4 S = some res → dk_J p l e rm_Model_hangs s m args below meth c g A Q 5 0 0 23 [(0, .ref (am 0)), (1, .int x1), (2, .int x2), (3, .int x3), (4, .int x4)] [] (wM g am S) := by
  intro q
  induction q with
  | zero => intro x1 x2 x3 x4  S hF; cases hF
  | succ q ih => intro x1 x2 x3 x4  S hF; exact kb_Model_hangs_23b (n := n) X hR ih  hF
def B_Model_hangs_0 (n : Nat)  (x1 : Int32) (S : dk_S) : Option (Int32 × dk_S) :=
  dk_c (F_Model_isBeast n x1 S) fun r6 S5 => if ¬ r6 = 0 then (dk_c (F_Model_whoseWithout n x1 (0 : Int32) S5) fun r8 S7 => B_Model_hangs_23 n  n x1 r8 (0 : Int32) (0 : Int32) S7) else (some ((-5 : Int32), S5))
set_option maxRecDepth 20000 in
theorem kb_Model_hangs_0 {p : Program} {l : Launch} {e : Env} {s : State} {m : MethodId} {args : Array Value} {below : List Frame} {meth : Method} {c : Code} {g : dk_G} {A : Nat → Prop} {Q : State → Prop} {am : Nat → Nat} {n : Nat} {res : (Int32 × dk_S)} (X : dk_X p s m args meth c b_Model_hangs 5 R_Model (some .int) g A) (hR : dk_Ri p l e rm_Model_hangs s m args below meth c g A Q 5 b_Model_hangs (some .int) (wM g am) res)  {x1 : Int32} {S : dk_S}  (hF : B_Model_hangs_0 n  x1 S = some res) : dk_J p l e rm_Model_hangs s m args below meth c g A Q 5 0 0 0 [(0, .ref (am 0)), (1, .int x1)] [] (wM g am S) := by
  unfold B_Model_hangs_0 at hF
  refine dk_aload_n (k := 0) (i := 0) X 0 rfl rfl d_Model_hangs_0 ?_
  refine dk_iload_n (k := 1) (i := 1) X 1 rfl rfl d_Model_hangs_1 ?_
  refine dk_callVi X v_Model_isBeast [.int x1] (c_Model_isBeast l g am n x1 S) 0 (oM_Model g am S) rfl rfl m_Model_158 rfl rfl ⟨rfl, rfl, Nat.le_of_ble_eq_true rfl, Nat.le_of_ble_eq_true rfl, Nat.le_refl _, Nat.le_refl _⟩ (Nat.le_of_ble_eq_true rfl) d_Model_hangs_2 hF (fun r6 S5 hF => ?_)
  refine dk_if_ne (tgt := 11) X (by decide) d_Model_hangs_5 hF (fun hF => ?_) (fun hF => ?_)
  · refine dk_aload_n (k := 0) (i := 0) X 0 rfl rfl d_Model_hangs_11 ?_
    refine dk_iload_n (k := 1) (i := 1) X 1 rfl rfl d_Model_hangs_12 ?_
    refine dk_iconst (v := 0) X (by decide) d_Model_hangs_13 ?_
    refine dk_callVi X v_Model_whoseWithout [.int x1, .int (0 : Int32)] (c_Model_whoseWithout l g am n x1 (0 : Int32) S5) 0 (oM_Model g am S5) rfl rfl m_Model_293 rfl rfl ⟨rfl, rfl, Nat.le_of_ble_eq_true rfl, Nat.le_of_ble_eq_true rfl, Nat.le_refl _, Nat.le_refl _⟩ (Nat.le_of_ble_eq_true rfl) d_Model_hangs_14 hF (fun r8 S7 hF => ?_)
    refine dk_istore_n (k := 2) (i := 2) (lv' := [(2, .int r8), (0, .ref (am 0)), (1, .int x1)]) X rfl (by decide) rfl d_Model_hangs_17 ?_
    refine dk_iconst (v := 0) X (by decide) d_Model_hangs_18 ?_
    refine dk_istore_n (k := 3) (i := 3) (lv' := [(3, .int (0 : Int32)), (2, .int r8), (0, .ref (am 0)), (1, .int x1)]) X rfl (by decide) rfl d_Model_hangs_19 ?_
    refine dk_iconst (v := 0) X (by decide) d_Model_hangs_20 ?_
    refine dk_istore (i := 4) (lv' := [(4, .int (0 : Int32)), (3, .int (0 : Int32)), (2, .int r8), (0, .ref (am 0)), (1, .int x1)]) X (by decide) rfl d_Model_hangs_21 ?_
    exact dk_sub [3, 4, 2, 1, 0] rfl (kb_Model_hangs_23 (n := n) X hR  n x1 r8 (0 : Int32) (0 : Int32) S7 hF)
  · refine dk_bipush (v := -5) X (by decide) d_Model_hangs_8 ?_
    exact dk_reti hR hF d_Model_hangs_10
def F_Model_hangs (n : Nat) (x1 : Int32) (S : dk_S) : Option (Int32 × dk_S) := B_Model_hangs_0 n x1 S
theorem c_Model_hangs (l : Launch) (g : dk_G) (am : Nat → Nat) (n : Nat) (x1 : Int32)  (S : dk_S) : dk_Mi l g y_Model_hangs b_Model_hangs 5 rm_Model_hangs (some .int) [.ref (am 0), .int x1] (wM g am) S (F_Model_hangs n x1 S) := dk_enteri (by decide) (Nat.le_of_ble_eq_true rfl) (fun p e s m args below meth c A Q res hF X hR => (kb_Model_hangs_0 (n := n) X hR  hF))
abbrev b_Model_ones : ByteArray := prog_11_method_57_code
def y_Model_ones : MethodName := ⟨R_Model, "ones", "(I)I"⟩
theorem d_Model_ones_0 : decode b_Model_ones 0 = .ok (.iconst 0, 1) := by decide +kernel
theorem d_Model_ones_1 : decode b_Model_ones 1 = .ok (.istore_n 1, 1) := by decide +kernel
theorem d_Model_ones_2 : decode b_Model_ones 2 = .ok (.iconst 0, 1) := by decide +kernel
theorem d_Model_ones_3 : decode b_Model_ones 3 = .ok (.istore_n 2, 1) := by decide +kernel
theorem d_Model_ones_4 : decode b_Model_ones 4 = .ok (.iload_n 2, 1) := by decide +kernel
theorem d_Model_ones_5 : decode b_Model_ones 5 = .ok (.bipush 6, 2) := by decide +kernel
theorem d_Model_ones_7 : decode b_Model_ones 7 = .ok (.if_icmp .ge 17, 3) := by decide +kernel
theorem d_Model_ones_10 : decode b_Model_ones 10 = .ok (.iload_n 1, 1) := by decide +kernel
theorem d_Model_ones_11 : decode b_Model_ones 11 = .ok (.iload_n 0, 1) := by decide +kernel
theorem d_Model_ones_12 : decode b_Model_ones 12 = .ok (.iload_n 2, 1) := by decide +kernel
theorem d_Model_ones_13 : decode b_Model_ones 13 = .ok (.ishr, 1) := by decide +kernel
theorem d_Model_ones_14 : decode b_Model_ones 14 = .ok (.iconst 1, 1) := by decide +kernel
theorem d_Model_ones_15 : decode b_Model_ones 15 = .ok (.iand, 1) := by decide +kernel
theorem d_Model_ones_16 : decode b_Model_ones 16 = .ok (.iadd, 1) := by decide +kernel
theorem d_Model_ones_17 : decode b_Model_ones 17 = .ok (.istore_n 1, 1) := by decide +kernel
theorem d_Model_ones_18 : decode b_Model_ones 18 = .ok (.iinc 2 1, 3) := by decide +kernel
theorem d_Model_ones_21 : decode b_Model_ones 21 = .ok (.goto (-17), 3) := by decide +kernel
theorem d_Model_ones_24 : decode b_Model_ones 24 = .ok (.iload_n 1, 1) := by decide +kernel
theorem d_Model_ones_25 : decode b_Model_ones 25 = .ok (.ireturn, 1) := by decide +kernel
theorem v_Model_ones : dk_Ys y_Model_ones b_Model_ones 3 (some .int) 1 := ⟨dk_in (List.mem_of_getElem? (i := 1335) (by decide +kernel)) rfl, dk_in (List.mem_of_getElem? (i := 75) (by decide +kernel)) rfl, dk_in (List.mem_of_getElem? (i := 1336) (by decide +kernel)) rfl, by decide +kernel, by decide +kernel, by decide +kernel⟩
abbrev rm_Model_ones : Room := { frames := 0, cells := 0, slots := 0, locals := 0 }
def B_Model_ones_4b (n : Nat) (k4 : Int32 → Int32 → Int32 → dk_S → Option (Int32 × dk_S)) (x0 : Int32) (x1 : Int32) (x2 : Int32) (S : dk_S) : Option (Int32 × dk_S) :=
  if (6 : Int32) ≤ x2 then (some (x1, S)) else (k4 x0 (x1 + ((x0 >>> (x2 &&& 31)) &&& (1 : Int32))) (x2 + (1 : Int32)) S)
set_option maxRecDepth 20000 in
theorem kb_Model_ones_4b {p : Program} {l : Launch} {e : Env} {s : State} {m : MethodId} {args : Array Value} {below : List Frame} {meth : Method} {c : Code} {g : dk_G} {A : Nat → Prop} {Q : State → Prop} {am : Nat → Nat} {n : Nat} {res : (Int32 × dk_S)} (X : dk_X p s m args meth c b_Model_ones 3 R_Model (some .int) g A) (hR : dk_Ri p l e rm_Model_ones s m args below meth c g A Q 3 b_Model_ones (some .int) (wM g am) res) {k4 : Int32 → Int32 → Int32 → dk_S → Option (Int32 × dk_S)} (hk4 : ∀ (x0 : Int32) (x1 : Int32) (x2 : Int32)  (S : dk_S), k4 x0 x1 x2 S = some res → dk_J p l e rm_Model_ones s m args below meth c g A Q 3 0 0 4 [(0, .int x0), (1, .int x1), (2, .int x2)] [] (wM g am S)) {x0 : Int32} {x1 : Int32} {x2 : Int32} {S : dk_S}  (hF : B_Model_ones_4b n k4 x0 x1 x2 S = some res) : dk_J p l e rm_Model_ones s m args below meth c g A Q 3 0 0 4 [(0, .int x0), (1, .int x1), (2, .int x2)] [] (wM g am S) := by
  unfold B_Model_ones_4b at hF
  refine dk_iload_n (k := 2) (i := 2) X 2 rfl rfl d_Model_ones_4 ?_
  refine dk_bipush (v := 6) X (by decide) d_Model_ones_5 ?_
  refine dk_icmp_ge (tgt := 24) X (by decide) d_Model_ones_7 hF (fun hF => ?_) (fun hF => ?_)
  · refine dk_iload_n (k := 1) (i := 1) X 1 rfl rfl d_Model_ones_24 ?_
    exact dk_reti hR hF d_Model_ones_25
  · refine dk_iload_n (k := 1) (i := 1) X 1 rfl rfl d_Model_ones_10 ?_
    refine dk_iload_n (k := 0) (i := 0) X 0 rfl rfl d_Model_ones_11 ?_
    refine dk_iload_n (k := 2) (i := 2) X 2 rfl rfl d_Model_ones_12 ?_
    refine dk_ishr X d_Model_ones_13 ?_
    refine dk_iconst (v := 1) X (by decide) d_Model_ones_14 ?_
    refine dk_iand X d_Model_ones_15 ?_
    refine dk_iadd X d_Model_ones_16 ?_
    refine dk_istore_n (k := 1) (i := 1) (lv' := [(1, .int (x1 + ((x0 >>> (x2 &&& 31)) &&& (1 : Int32)))), (0, .int x0), (2, .int x2)]) X rfl (by decide) rfl d_Model_ones_17 ?_
    refine dk_iinc (i := 2) (v := (x2 + (1 : Int32))) (lv' := [(2, .int (x2 + (1 : Int32))), (1, .int (x1 + ((x0 >>> (x2 &&& 31)) &&& (1 : Int32)))), (0, .int x0)]) X 2 rfl (dk_ii _ (by decide)) (by decide) rfl d_Model_ones_18 ?_
    refine dk_goto (tgt := 4) X (by decide) d_Model_ones_21 ?_
    exact dk_sub [2, 1, 0] rfl (hk4 x0 (x1 + ((x0 >>> (x2 &&& 31)) &&& (1 : Int32))) (x2 + (1 : Int32)) S hF)
def B_Model_ones_4 (n : Nat)  : Nat → Int32 → Int32 → Int32 → dk_S → Option (Int32 × dk_S)
  | 0 => fun _ _ _ _ => none
  | q + 1 => fun x0 x1 x2 S => B_Model_ones_4b n (fun x0 x1 x2 S => B_Model_ones_4 n  q x0 x1 x2 S) x0 x1 x2 S
theorem kb_Model_ones_4 {p : Program} {l : Launch} {e : Env} {s : State} {m : MethodId} {args : Array Value} {below : List Frame} {meth : Method} {c : Code} {g : dk_G} {A : Nat → Prop} {Q : State → Prop} {am : Nat → Nat} {n : Nat} {res : (Int32 × dk_S)} (X : dk_X p s m args meth c b_Model_ones 3 R_Model (some .int) g A) (hR : dk_Ri p l e rm_Model_ones s m args below meth c g A Q 3 b_Model_ones (some .int) (wM g am) res)  : ∀ (q : Nat) (x0 : Int32) (x1 : Int32) (x2 : Int32)  (S : dk_S), B_Model_ones_4 n  q x0 x1 x2 S = some res → dk_J p l e rm_Model_ones s m args below meth c g A Q 3 0 0 4 [(0, .int x0), (1, .int x1), (2, .int x2)] [] (wM g am S) := by
  intro q
  induction q with
  | zero => intro x0 x1 x2  S hF; cases hF
  | succ q ih => intro x0 x1 x2  S hF; exact kb_Model_ones_4b (n := n) X hR ih  hF
def B_Model_ones_0 (n : Nat)  (x0 : Int32) (S : dk_S) : Option (Int32 × dk_S) :=
  B_Model_ones_4 n  n x0 (0 : Int32) (0 : Int32) S
set_option maxRecDepth 20000 in
theorem kb_Model_ones_0 {p : Program} {l : Launch} {e : Env} {s : State} {m : MethodId} {args : Array Value} {below : List Frame} {meth : Method} {c : Code} {g : dk_G} {A : Nat → Prop} {Q : State → Prop} {am : Nat → Nat} {n : Nat} {res : (Int32 × dk_S)} (X : dk_X p s m args meth c b_Model_ones 3 R_Model (some .int) g A) (hR : dk_Ri p l e rm_Model_ones s m args below meth c g A Q 3 b_Model_ones (some .int) (wM g am) res)  {x0 : Int32} {S : dk_S}  (hF : B_Model_ones_0 n  x0 S = some res) : dk_J p l e rm_Model_ones s m args below meth c g A Q 3 0 0 0 [(0, .int x0)] [] (wM g am S) := by
  unfold B_Model_ones_0 at hF
  refine dk_iconst (v := 0) X (by decide) d_Model_ones_0 ?_
  refine dk_istore_n (k := 1) (i := 1) (lv' := [(1, .int (0 : Int32)), (0, .int x0)]) X rfl (by decide) rfl d_Model_ones_1 ?_
  refine dk_iconst (v := 0) X (by decide) d_Model_ones_2 ?_
  refine dk_istore_n (k := 2) (i := 2) (lv' := [(2, .int (0 : Int32)), (1, .int (0 : Int32)), (0, .int x0)]) X rfl (by decide) rfl d_Model_ones_3 ?_
  exact dk_sub [2, 1, 0] rfl (kb_Model_ones_4 (n := n) X hR  n x0 (0 : Int32) (0 : Int32) S hF)
def F_Model_ones (n : Nat) (x0 : Int32) (S : dk_S) : Option (Int32 × dk_S) := B_Model_ones_0 n x0 S
theorem c_Model_ones (l : Launch) (g : dk_G) (am : Nat → Nat) (n : Nat) (x0 : Int32)  (S : dk_S) : dk_Mi l g y_Model_ones b_Model_ones 3 rm_Model_ones (some .int) [.int x0] (wM g am) S (F_Model_ones n x0 S) := dk_enteri (by decide) (Nat.le_of_ble_eq_true rfl) (fun p e s m args below meth c A Q res hF X hR => (kb_Model_ones_0 (n := n) X hR  hF))
abbrev b_Model_least : ByteArray := prog_11_method_58_code
def y_Model_least : MethodName := ⟨R_Model, "least", "(II)I"⟩
theorem d_Model_least_0 : decode b_Model_least 0 = .ok (.aload_n 0, 1) := by decide +kernel
theorem d_Model_least_1 : decode b_Model_least 1 = .ok (.iload_n 1, 1) := by decide +kernel
theorem d_Model_least_2 : decode b_Model_least 2 = .ok (.invokevirtual 158, 3) := by decide +kernel
theorem d_Model_least_5 : decode b_Model_least 5 = .ok (.ifCond .eq 13, 3) := by decide +kernel
theorem d_Model_least_8 : decode b_Model_least 8 = .ok (.iload_n 2, 1) := by decide +kernel
theorem d_Model_least_9 : decode b_Model_least 9 = .ok (.iconst 0, 1) := by decide +kernel
theorem d_Model_least_10 : decode b_Model_least 10 = .ok (.bipush 9, 2) := by decide +kernel
theorem d_Model_least_12 : decode b_Model_least 12 = .ok (.invokestatic 144, 3) := by decide +kernel
theorem d_Model_least_15 : decode b_Model_least 15 = .ok (.ifCond .ne 6, 3) := by decide +kernel
theorem d_Model_least_18 : decode b_Model_least 18 = .ok (.bipush (-5), 2) := by decide +kernel
theorem d_Model_least_20 : decode b_Model_least 20 = .ok (.ireturn, 1) := by decide +kernel
theorem d_Model_least_21 : decode b_Model_least 21 = .ok (.iconst (-1), 1) := by decide +kernel
theorem d_Model_least_22 : decode b_Model_least 22 = .ok (.istore_n 3, 1) := by decide +kernel
theorem d_Model_least_23 : decode b_Model_least 23 = .ok (.iconst 0, 1) := by decide +kernel
theorem d_Model_least_24 : decode b_Model_least 24 = .ok (.istore 4, 2) := by decide +kernel
theorem d_Model_least_26 : decode b_Model_least 26 = .ok (.iload 4, 2) := by decide +kernel
theorem d_Model_least_28 : decode b_Model_least 28 = .ok (.iconst 1, 1) := by decide +kernel
theorem d_Model_least_29 : decode b_Model_least 29 = .ok (.aload_n 0, 1) := by decide +kernel
theorem d_Model_least_30 : decode b_Model_least 30 = .ok (.invokevirtual 164, 3) := by decide +kernel
theorem d_Model_least_33 : decode b_Model_least 33 = .ok (.ishl, 1) := by decide +kernel
theorem d_Model_least_34 : decode b_Model_least 34 = .ok (.if_icmp .ge 40, 3) := by decide +kernel
theorem d_Model_least_37 : decode b_Model_least 37 = .ok (.iload_n 3, 1) := by decide +kernel
theorem d_Model_least_38 : decode b_Model_least 38 = .ok (.iconst (-1), 1) := by decide +kernel
theorem d_Model_least_39 : decode b_Model_least 39 = .ok (.if_icmp .eq 15, 3) := by decide +kernel
theorem d_Model_least_42 : decode b_Model_least 42 = .ok (.iload 4, 2) := by decide +kernel
theorem d_Model_least_44 : decode b_Model_least 44 = .ok (.invokestatic 297, 3) := by decide +kernel
theorem d_Model_least_47 : decode b_Model_least 47 = .ok (.iload_n 3, 1) := by decide +kernel
theorem d_Model_least_48 : decode b_Model_least 48 = .ok (.invokestatic 297, 3) := by decide +kernel
theorem d_Model_least_51 : decode b_Model_least 51 = .ok (.if_icmp .ge 17, 3) := by decide +kernel
theorem d_Model_least_54 : decode b_Model_least 54 = .ok (.aload_n 0, 1) := by decide +kernel
theorem d_Model_least_55 : decode b_Model_least 55 = .ok (.iload_n 1, 1) := by decide +kernel
theorem d_Model_least_56 : decode b_Model_least 56 = .ok (.iload 4, 2) := by decide +kernel
theorem d_Model_least_58 : decode b_Model_least 58 = .ok (.invokevirtual 293, 3) := by decide +kernel
theorem d_Model_least_61 : decode b_Model_least 61 = .ok (.iload_n 2, 1) := by decide +kernel
theorem d_Model_least_62 : decode b_Model_least 62 = .ok (.if_icmp .ne 6, 3) := by decide +kernel
theorem d_Model_least_65 : decode b_Model_least 65 = .ok (.iload 4, 2) := by decide +kernel
theorem d_Model_least_67 : decode b_Model_least 67 = .ok (.istore_n 3, 1) := by decide +kernel
theorem d_Model_least_68 : decode b_Model_least 68 = .ok (.iinc 4 1, 3) := by decide +kernel
theorem d_Model_least_71 : decode b_Model_least 71 = .ok (.goto (-45), 3) := by decide +kernel
theorem d_Model_least_74 : decode b_Model_least 74 = .ok (.iload_n 3, 1) := by decide +kernel
theorem d_Model_least_75 : decode b_Model_least 75 = .ok (.ireturn, 1) := by decide +kernel
theorem v_Model_least : dk_Yv y_Model_least b_Model_least 5 (some .int) 2 := ⟨dk_in (List.mem_of_getElem? (i := 1331) (by decide +kernel)) rfl, dk_in (List.mem_of_getElem? (i := 1332) (by decide +kernel)) rfl, dk_in (List.mem_of_getElem? (i := 75) (by decide +kernel)) rfl, dk_in (List.mem_of_getElem? (i := 1333) (by decide +kernel)) rfl, by decide +kernel, by decide +kernel, by decide +kernel⟩
abbrev rm_Model_least : Room := { frames := 7, cells := 0, slots := 0, locals := 160 }
theorem m_Model_297 : Cond.methodLink R_Model 297 y_Model_ones ∈ dk_tb := dk_in (List.mem_of_getElem? (i := 1334) (by decide +kernel)) rfl
def B_Model_least_68 (n : Nat) (k26 : Int32 → Int32 → Int32 → Int32 → dk_S → Option (Int32 × dk_S)) (x1 : Int32) (x2 : Int32) (x3 : Int32) (x4 : Int32) (S : dk_S) : Option (Int32 × dk_S) :=
  k26 x1 x2 x3 (x4 + (1 : Int32)) S
set_option maxRecDepth 20000 in
theorem kb_Model_least_68 {p : Program} {l : Launch} {e : Env} {s : State} {m : MethodId} {args : Array Value} {below : List Frame} {meth : Method} {c : Code} {g : dk_G} {A : Nat → Prop} {Q : State → Prop} {am : Nat → Nat} {n : Nat} {res : (Int32 × dk_S)} (X : dk_X p s m args meth c b_Model_least 5 R_Model (some .int) g A) (hR : dk_Ri p l e rm_Model_least s m args below meth c g A Q 5 b_Model_least (some .int) (wM g am) res) {k26 : Int32 → Int32 → Int32 → Int32 → dk_S → Option (Int32 × dk_S)} (hk26 : ∀ (x1 : Int32) (x2 : Int32) (x3 : Int32) (x4 : Int32)  (S : dk_S), k26 x1 x2 x3 x4 S = some res → dk_J p l e rm_Model_least s m args below meth c g A Q 5 0 0 26 [(0, .ref (am 0)), (1, .int x1), (2, .int x2), (3, .int x3), (4, .int x4)] [] (wM g am S)) {x1 : Int32} {x2 : Int32} {x3 : Int32} {x4 : Int32} {S : dk_S}  (hF : B_Model_least_68 n k26 x1 x2 x3 x4 S = some res) : dk_J p l e rm_Model_least s m args below meth c g A Q 5 0 0 68 [(0, .ref (am 0)), (1, .int x1), (2, .int x2), (3, .int x3), (4, .int x4)] [] (wM g am S) := by
  unfold B_Model_least_68 at hF
  refine dk_iinc (i := 4) (v := (x4 + (1 : Int32))) (lv' := [(4, .int (x4 + (1 : Int32))), (0, .ref (am 0)), (1, .int x1), (2, .int x2), (3, .int x3)]) X 4 rfl (dk_ii _ (by decide)) (by decide) rfl d_Model_least_68 ?_
  refine dk_goto (tgt := 26) X (by decide) d_Model_least_71 ?_
  exact dk_sub [1, 2, 3, 4, 0] rfl (hk26 x1 x2 x3 (x4 + (1 : Int32)) S hF)
def B_Model_least_54 (n : Nat) (k26 : Int32 → Int32 → Int32 → Int32 → dk_S → Option (Int32 × dk_S)) (x1 : Int32) (x2 : Int32) (x3 : Int32) (x4 : Int32) (S : dk_S) : Option (Int32 × dk_S) :=
  dk_c (F_Model_whoseWithout n x1 x4 S) fun r2 S1 => if ¬ r2 = x2 then (B_Model_least_68 n k26 x1 x2 x3 x4 S1) else (B_Model_least_68 n k26 x1 x2 x4 x4 S1)
set_option maxRecDepth 20000 in
theorem kb_Model_least_54 {p : Program} {l : Launch} {e : Env} {s : State} {m : MethodId} {args : Array Value} {below : List Frame} {meth : Method} {c : Code} {g : dk_G} {A : Nat → Prop} {Q : State → Prop} {am : Nat → Nat} {n : Nat} {res : (Int32 × dk_S)} (X : dk_X p s m args meth c b_Model_least 5 R_Model (some .int) g A) (hR : dk_Ri p l e rm_Model_least s m args below meth c g A Q 5 b_Model_least (some .int) (wM g am) res) {k26 : Int32 → Int32 → Int32 → Int32 → dk_S → Option (Int32 × dk_S)} (hk26 : ∀ (x1 : Int32) (x2 : Int32) (x3 : Int32) (x4 : Int32)  (S : dk_S), k26 x1 x2 x3 x4 S = some res → dk_J p l e rm_Model_least s m args below meth c g A Q 5 0 0 26 [(0, .ref (am 0)), (1, .int x1), (2, .int x2), (3, .int x3), (4, .int x4)] [] (wM g am S)) {x1 : Int32} {x2 : Int32} {x3 : Int32} {x4 : Int32} {S : dk_S}  (hF : B_Model_least_54 n k26 x1 x2 x3 x4 S = some res) : dk_J p l e rm_Model_least s m args below meth c g A Q 5 0 0 54 [(0, .ref (am 0)), (1, .int x1), (2, .int x2), (3, .int x3), (4, .int x4)] [] (wM g am S) := by
  unfold B_Model_least_54 at hF
  refine dk_aload_n (k := 0) (i := 0) X 0 rfl rfl d_Model_least_54 ?_
  refine dk_iload_n (k := 1) (i := 1) X 1 rfl rfl d_Model_least_55 ?_
  refine dk_iload (i := 4) X 4 rfl d_Model_least_56 ?_
  refine dk_callVi X v_Model_whoseWithout [.int x1, .int x4] (c_Model_whoseWithout l g am n x1 x4 S) 0 (oM_Model g am S) rfl rfl m_Model_293 rfl rfl ⟨rfl, rfl, Nat.le_of_ble_eq_true rfl, Nat.le_of_ble_eq_true rfl, Nat.le_refl _, Nat.le_refl _⟩ (Nat.le_of_ble_eq_true rfl) d_Model_least_58 hF (fun r2 S1 hF => ?_)
  refine dk_iload_n (k := 2) (i := 2) X 2 rfl rfl d_Model_least_61 ?_
  refine dk_icmp_ne (tgt := 68) X (by decide) d_Model_least_62 hF (fun hF => ?_) (fun hF => ?_)
  · exact (kb_Model_least_68 (n := n) X hR hk26  hF)
  · refine dk_iload (i := 4) X 4 rfl d_Model_least_65 ?_
    refine dk_istore_n (k := 3) (i := 3) (lv' := [(3, .int x4), (0, .ref (am 0)), (1, .int x1), (2, .int x2), (4, .int x4)]) X rfl (by decide) rfl d_Model_least_67 ?_
    exact dk_sub [1, 2, 3, 0, 4] rfl (kb_Model_least_68 (n := n) X hR hk26  hF)
def B_Model_least_26b (n : Nat) (k26 : Int32 → Int32 → Int32 → Int32 → dk_S → Option (Int32 × dk_S)) (x1 : Int32) (x2 : Int32) (x3 : Int32) (x4 : Int32) (S : dk_S) : Option (Int32 × dk_S) :=
  dk_c (F_Model_unsureMany n S) fun r4 S3 => if ((1 : Int32) <<< (r4 &&& 31)) ≤ x4 then (some (x3, S3)) else (if x3 = (-1 : Int32) then (B_Model_least_54 n k26 x1 x2 x3 x4 S3) else (dk_c (F_Model_ones n x4 S3) fun r6 S5 => dk_c (F_Model_ones n x3 S5) fun r8 S7 => if r8 ≤ r6 then (B_Model_least_68 n k26 x1 x2 x3 x4 S7) else (B_Model_least_54 n k26 x1 x2 x3 x4 S7)))
set_option maxRecDepth 20000 in
theorem kb_Model_least_26b {p : Program} {l : Launch} {e : Env} {s : State} {m : MethodId} {args : Array Value} {below : List Frame} {meth : Method} {c : Code} {g : dk_G} {A : Nat → Prop} {Q : State → Prop} {am : Nat → Nat} {n : Nat} {res : (Int32 × dk_S)} (X : dk_X p s m args meth c b_Model_least 5 R_Model (some .int) g A) (hR : dk_Ri p l e rm_Model_least s m args below meth c g A Q 5 b_Model_least (some .int) (wM g am) res) {k26 : Int32 → Int32 → Int32 → Int32 → dk_S → Option (Int32 × dk_S)} (hk26 : ∀ (x1 : Int32) (x2 : Int32) (x3 : Int32) (x4 : Int32)  (S : dk_S), k26 x1 x2 x3 x4 S = some res → dk_J p l e rm_Model_least s m args below meth c g A Q 5 0 0 26 [(0, .ref (am 0)), (1, .int x1), (2, .int x2), (3, .int x3), (4, .int x4)] [] (wM g am S)) {x1 : Int32} {x2 : Int32} {x3 : Int32} {x4 : Int32} {S : dk_S}  (hF : B_Model_least_26b n k26 x1 x2 x3 x4 S = some res) : dk_J p l e rm_Model_least s m args below meth c g A Q 5 0 0 26 [(0, .ref (am 0)), (1, .int x1), (2, .int x2), (3, .int x3), (4, .int x4)] [] (wM g am S) := by
  unfold B_Model_least_26b at hF
  refine dk_iload (i := 4) X 4 rfl d_Model_least_26 ?_
  refine dk_iconst (v := 1) X (by decide) d_Model_least_28 ?_
  refine dk_aload_n (k := 0) (i := 0) X 0 rfl rfl d_Model_least_29 ?_
  refine dk_callVi X v_Model_unsureMany [] (c_Model_unsureMany l g am n S) 0 (oM_Model g am S) rfl rfl m_Model_164 rfl rfl ⟨rfl, rfl, Nat.le_of_ble_eq_true rfl, Nat.le_of_ble_eq_true rfl, Nat.le_refl _, Nat.le_refl _⟩ (Nat.le_of_ble_eq_true rfl) d_Model_least_30 hF (fun r4 S3 hF => ?_)
  refine dk_ishl X d_Model_least_33 ?_
  refine dk_icmp_ge (tgt := 74) X (by decide) d_Model_least_34 hF (fun hF => ?_) (fun hF => ?_)
  · refine dk_iload_n (k := 3) (i := 3) X 3 rfl rfl d_Model_least_74 ?_
    exact dk_reti hR hF d_Model_least_75
  · refine dk_iload_n (k := 3) (i := 3) X 3 rfl rfl d_Model_least_37 ?_
    refine dk_iconst (v := -1) X (by decide) d_Model_least_38 ?_
    refine dk_icmp_eq (tgt := 54) X (by decide) d_Model_least_39 hF (fun hF => ?_) (fun hF => ?_)
    · exact (kb_Model_least_54 (n := n) X hR hk26  hF)
    · refine dk_iload (i := 4) X 4 rfl d_Model_least_42 ?_
      refine dk_callSi X v_Model_ones [.int x4] (c_Model_ones l g am n x4 S3) m_Model_297 rfl rfl ⟨rfl, rfl, Nat.le_of_ble_eq_true rfl, Nat.le_of_ble_eq_true rfl, Nat.le_refl _, Nat.le_refl _⟩ (Nat.le_of_ble_eq_true rfl) d_Model_least_44 hF (fun r6 S5 hF => ?_)
      refine dk_iload_n (k := 3) (i := 3) X 3 rfl rfl d_Model_least_47 ?_
      refine dk_callSi X v_Model_ones [.int x3] (c_Model_ones l g am n x3 S5) m_Model_297 rfl rfl ⟨rfl, rfl, Nat.le_of_ble_eq_true rfl, Nat.le_of_ble_eq_true rfl, Nat.le_refl _, Nat.le_refl _⟩ (Nat.le_of_ble_eq_true rfl) d_Model_least_48 hF (fun r8 S7 hF => ?_)
      refine dk_icmp_ge (tgt := 68) X (by decide) d_Model_least_51 hF (fun hF => ?_) (fun hF => ?_)
      · exact (kb_Model_least_68 (n := n) X hR hk26  hF)
      · exact (kb_Model_least_54 (n := n) X hR hk26  hF)
def B_Model_least_26 (n : Nat)  : Nat → Int32 → Int32 → Int32 → Int32 → dk_S → Option (Int32 × dk_S)
  | 0 => fun _ _ _ _ _ => none
  | q + 1 => fun x1 x2 x3 x4 S => B_Model_least_26b n (fun x1 x2 x3 x4 S => B_Model_least_26 n  q x1 x2 x3 x4 S) x1 x2 x3 x4 S
theorem kb_Model_least_26 {p : Program} {l : Launch} {e : Env} {s : State} {m : MethodId} {args : Array Value} {below : List Frame} {meth : Method} {c : Code} {g : dk_G} {A : Nat → Prop} {Q : State → Prop} {am : Nat → Nat} {n : Nat} {res : (Int32 × dk_S)} (X : dk_X p s m args meth c b_Model_least 5 R_Model (some .int) g A) (hR : dk_Ri p l e rm_Model_least s m args below meth c g A Q 5 b_Model_least (some .int) (wM g am) res)  : ∀ (q : Nat) (x1 : Int32) (x2 : Int32) (x3 : Int32) (x4 : Int32)  (S : dk_S), B_Model_least_26 n  q x1 x2 x3 x4 S = some res → dk_J p l e rm_Model_least s m args below meth c g A Q 5 0 0 26 [(0, .ref (am 0)), (1, .int x1), (2, .int x2), (3, .int x3), (4, .int x4)] [] (wM g am S) := by
  intro q
  induction q with
  | zero => intro x1 x2 x3 x4  S hF; cases hF
  | succ q ih => intro x1 x2 x3 x4  S hF; exact kb_Model_least_26b (n := n) X hR ih  hF
def B_Model_least_0 (n : Nat)  (x1 : Int32) (x2 : Int32) (S : dk_S) : Option (Int32 × dk_S) :=
  dk_c (F_Model_isBeast n x1 S) fun r10 S9 => if r10 = 0 then (some ((-5 : Int32), S9)) else (dk_c (F_Model_in n x2 (0 : Int32) (9 : Int32) S9) fun r12 S11 => if ¬ r12 = 0 then (B_Model_least_26 n  n x1 x2 (-1 : Int32) (0 : Int32) S11) else (some ((-5 : Int32), S11)))
set_option maxRecDepth 20000 in
theorem kb_Model_least_0 {p : Program} {l : Launch} {e : Env} {s : State} {m : MethodId} {args : Array Value} {below : List Frame} {meth : Method} {c : Code} {g : dk_G} {A : Nat → Prop} {Q : State → Prop} {am : Nat → Nat} {n : Nat} {res : (Int32 × dk_S)} (X : dk_X p s m args meth c b_Model_least 5 R_Model (some .int) g A) (hR : dk_Ri p l e rm_Model_least s m args below meth c g A Q 5 b_Model_least (some .int) (wM g am) res)  {x1 : Int32} {x2 : Int32} {S : dk_S}  (hF : B_Model_least_0 n  x1 x2 S = some res) : dk_J p l e rm_Model_least s m args below meth c g A Q 5 0 0 0 [(0, .ref (am 0)), (1, .int x1), (2, .int x2)] [] (wM g am S) := by
  unfold B_Model_least_0 at hF
  refine dk_aload_n (k := 0) (i := 0) X 0 rfl rfl d_Model_least_0 ?_
  refine dk_iload_n (k := 1) (i := 1) X 1 rfl rfl d_Model_least_1 ?_
  refine dk_callVi X v_Model_isBeast [.int x1] (c_Model_isBeast l g am n x1 S) 0 (oM_Model g am S) rfl rfl m_Model_158 rfl rfl ⟨rfl, rfl, Nat.le_of_ble_eq_true rfl, Nat.le_of_ble_eq_true rfl, Nat.le_refl _, Nat.le_refl _⟩ (Nat.le_of_ble_eq_true rfl) d_Model_least_2 hF (fun r10 S9 hF => ?_)
  refine dk_if_eq (tgt := 18) X (by decide) d_Model_least_5 hF (fun hF => ?_) (fun hF => ?_)
  · refine dk_bipush (v := -5) X (by decide) d_Model_least_18 ?_
    exact dk_reti hR hF d_Model_least_20
  · refine dk_iload_n (k := 2) (i := 2) X 2 rfl rfl d_Model_least_8 ?_
    refine dk_iconst (v := 0) X (by decide) d_Model_least_9 ?_
    refine dk_bipush (v := 9) X (by decide) d_Model_least_10 ?_
    refine dk_callSi X v_Model_in [.int x2, .int (0 : Int32), .int (9 : Int32)] (c_Model_in l g am n x2 (0 : Int32) (9 : Int32) S9) m_Model_144 rfl rfl ⟨rfl, rfl, Nat.le_of_ble_eq_true rfl, Nat.le_of_ble_eq_true rfl, Nat.le_refl _, Nat.le_refl _⟩ (Nat.le_of_ble_eq_true rfl) d_Model_least_12 hF (fun r12 S11 hF => ?_)
    refine dk_if_ne (tgt := 21) X (by decide) d_Model_least_15 hF (fun hF => ?_) (fun hF => ?_)
    · refine dk_iconst (v := -1) X (by decide) d_Model_least_21 ?_
      refine dk_istore_n (k := 3) (i := 3) (lv' := [(3, .int (-1 : Int32)), (0, .ref (am 0)), (1, .int x1), (2, .int x2)]) X rfl (by decide) rfl d_Model_least_22 ?_
      refine dk_iconst (v := 0) X (by decide) d_Model_least_23 ?_
      refine dk_istore (i := 4) (lv' := [(4, .int (0 : Int32)), (3, .int (-1 : Int32)), (0, .ref (am 0)), (1, .int x1), (2, .int x2)]) X (by decide) rfl d_Model_least_24 ?_
      exact dk_sub [2, 3, 4, 1, 0] rfl (kb_Model_least_26 (n := n) X hR  n x1 x2 (-1 : Int32) (0 : Int32) S11 hF)
    · refine dk_bipush (v := -5) X (by decide) d_Model_least_18 ?_
      exact dk_reti hR hF d_Model_least_20
def F_Model_least (n : Nat) (x1 : Int32) (x2 : Int32) (S : dk_S) : Option (Int32 × dk_S) := B_Model_least_0 n x1 x2 S
theorem c_Model_least (l : Launch) (g : dk_G) (am : Nat → Nat) (n : Nat) (x1 : Int32) (x2 : Int32)  (S : dk_S) : dk_Mi l g y_Model_least b_Model_least 5 rm_Model_least (some .int) [.ref (am 0), .int x1, .int x2] (wM g am) S (F_Model_least n x1 x2 S) := dk_enteri (by decide) (Nat.le_of_ble_eq_true rfl) (fun p e s m args below meth c A Q res hF X hR => (kb_Model_least_0 (n := n) X hR  hF))
abbrev b_Model_lowest : ByteArray := prog_11_method_59_code
def y_Model_lowest : MethodName := ⟨R_Model, "lowest", "(JJI)J"⟩
theorem d_Model_lowest_0 : decode b_Model_lowest 0 = .ok (.lload_n 0, 1) := by decide +kernel
theorem d_Model_lowest_1 : decode b_Model_lowest 1 = .ok (.lconst 0, 1) := by decide +kernel
theorem d_Model_lowest_2 : decode b_Model_lowest 2 = .ok (.lcmp, 1) := by decide +kernel
theorem d_Model_lowest_3 : decode b_Model_lowest 3 = .ok (.ifCond .ne 7, 3) := by decide +kernel
theorem d_Model_lowest_6 : decode b_Model_lowest 6 = .ok (.iload 4, 2) := by decide +kernel
theorem d_Model_lowest_8 : decode b_Model_lowest 8 = .ok (.i2l, 1) := by decide +kernel
theorem d_Model_lowest_9 : decode b_Model_lowest 9 = .ok (.lreturn, 1) := by decide +kernel
theorem d_Model_lowest_10 : decode b_Model_lowest 10 = .ok (.lload_n 0, 1) := by decide +kernel
theorem d_Model_lowest_11 : decode b_Model_lowest 11 = .ok (.lstore 5, 2) := by decide +kernel
theorem d_Model_lowest_13 : decode b_Model_lowest 13 = .ok (.lload_n 2, 1) := by decide +kernel
theorem d_Model_lowest_14 : decode b_Model_lowest 14 = .ok (.lstore 7, 2) := by decide +kernel
theorem d_Model_lowest_16 : decode b_Model_lowest 16 = .ok (.lload 7, 2) := by decide +kernel
theorem d_Model_lowest_18 : decode b_Model_lowest 18 = .ok (.lconst 0, 1) := by decide +kernel
theorem d_Model_lowest_19 : decode b_Model_lowest 19 = .ok (.lcmp, 1) := by decide +kernel
theorem d_Model_lowest_20 : decode b_Model_lowest 20 = .ok (.ifCond .eq 21, 3) := by decide +kernel
theorem d_Model_lowest_23 : decode b_Model_lowest 23 = .ok (.lload 5, 2) := by decide +kernel
theorem d_Model_lowest_25 : decode b_Model_lowest 25 = .ok (.lload 7, 2) := by decide +kernel
theorem d_Model_lowest_27 : decode b_Model_lowest 27 = .ok (.lrem, 1) := by decide +kernel
theorem d_Model_lowest_28 : decode b_Model_lowest 28 = .ok (.lstore 9, 2) := by decide +kernel
theorem d_Model_lowest_30 : decode b_Model_lowest 30 = .ok (.lload 7, 2) := by decide +kernel
theorem d_Model_lowest_32 : decode b_Model_lowest 32 = .ok (.lstore 5, 2) := by decide +kernel
theorem d_Model_lowest_34 : decode b_Model_lowest 34 = .ok (.lload 9, 2) := by decide +kernel
theorem d_Model_lowest_36 : decode b_Model_lowest 36 = .ok (.lstore 7, 2) := by decide +kernel
theorem d_Model_lowest_38 : decode b_Model_lowest 38 = .ok (.goto (-22), 3) := by decide +kernel
theorem d_Model_lowest_41 : decode b_Model_lowest 41 = .ok (.iload 4, 2) := by decide +kernel
theorem d_Model_lowest_43 : decode b_Model_lowest 43 = .ok (.ifCond .ne 7, 3) := by decide +kernel
theorem d_Model_lowest_46 : decode b_Model_lowest 46 = .ok (.lload_n 0, 1) := by decide +kernel
theorem d_Model_lowest_47 : decode b_Model_lowest 47 = .ok (.goto 4, 3) := by decide +kernel
theorem d_Model_lowest_50 : decode b_Model_lowest 50 = .ok (.lload_n 2, 1) := by decide +kernel
theorem d_Model_lowest_51 : decode b_Model_lowest 51 = .ok (.lload 5, 2) := by decide +kernel
theorem d_Model_lowest_53 : decode b_Model_lowest 53 = .ok (.ldiv, 1) := by decide +kernel
theorem d_Model_lowest_54 : decode b_Model_lowest 54 = .ok (.lreturn, 1) := by decide +kernel
theorem v_Model_lowest : dk_Ys y_Model_lowest b_Model_lowest 11 (some .long) 3 := ⟨dk_in (List.mem_of_getElem? (i := 1343) (by decide +kernel)) rfl, dk_in (List.mem_of_getElem? (i := 75) (by decide +kernel)) rfl, dk_in (List.mem_of_getElem? (i := 1344) (by decide +kernel)) rfl, by decide +kernel, by decide +kernel, by decide +kernel⟩
abbrev rm_Model_lowest : Room := { frames := 0, cells := 0, slots := 0, locals := 0 }
def B_Model_lowest_51 (n : Nat)  (x5 : Int64) (u0 : Int64) (S : dk_S) : Option (Int64 × dk_S) :=
  dk_g (¬ x5 = 0) <| some ((u0 / x5), S)
set_option maxRecDepth 20000 in
theorem kb_Model_lowest_51 {p : Program} {l : Launch} {e : Env} {s : State} {m : MethodId} {args : Array Value} {below : List Frame} {meth : Method} {c : Code} {g : dk_G} {A : Nat → Prop} {Q : State → Prop} {am : Nat → Nat} {n : Nat} {res : (Int64 × dk_S)} (X : dk_X p s m args meth c b_Model_lowest 11 R_Model (some .long) g A) (hR : dk_Rl p l e rm_Model_lowest s m args below meth c g A Q 11 b_Model_lowest (some .long) (wM g am) res)  {x5 : Int64} {u0 : Int64} {S : dk_S}  (hF : B_Model_lowest_51 n  x5 u0 S = some res) : dk_J p l e rm_Model_lowest s m args below meth c g A Q 11 0 0 51 [(5, .long x5)] [.long u0] (wM g am S) := by
  unfold B_Model_lowest_51 at hF
  refine dk_lload (i := 5) X 0 rfl d_Model_lowest_51 ?_
  have hF0 := dk_g_out hF
  have hF := hF0.2
  refine dk_ldiv X hF0.1 d_Model_lowest_53 ?_
  exact dk_retl hR hF d_Model_lowest_54
def B_Model_lowest_16b (n : Nat) (k16 : Int64 → Int64 → Int32 → Int64 → Int64 → dk_S → Option (Int64 × dk_S)) (x0 : Int64) (x2 : Int64) (x4 : Int32) (x5 : Int64) (x7 : Int64) (S : dk_S) : Option (Int64 × dk_S) :=
  if (lg_cmp x7 (0 : Int64)) = 0 then (if ¬ x4 = 0 then (B_Model_lowest_51 n  x5 x2 S) else (B_Model_lowest_51 n  x5 x0 S)) else (dk_g (¬ x7 = 0) <| k16 x0 x2 x4 x7 (x5 - x5 / x7 * x7) S)
set_option maxRecDepth 20000 in
theorem kb_Model_lowest_16b {p : Program} {l : Launch} {e : Env} {s : State} {m : MethodId} {args : Array Value} {below : List Frame} {meth : Method} {c : Code} {g : dk_G} {A : Nat → Prop} {Q : State → Prop} {am : Nat → Nat} {n : Nat} {res : (Int64 × dk_S)} (X : dk_X p s m args meth c b_Model_lowest 11 R_Model (some .long) g A) (hR : dk_Rl p l e rm_Model_lowest s m args below meth c g A Q 11 b_Model_lowest (some .long) (wM g am) res) {k16 : Int64 → Int64 → Int32 → Int64 → Int64 → dk_S → Option (Int64 × dk_S)} (hk16 : ∀ (x0 : Int64) (x2 : Int64) (x4 : Int32) (x5 : Int64) (x7 : Int64)  (S : dk_S), k16 x0 x2 x4 x5 x7 S = some res → dk_J p l e rm_Model_lowest s m args below meth c g A Q 11 0 0 16 [(0, .long x0), (2, .long x2), (4, .int x4), (5, .long x5), (7, .long x7)] [] (wM g am S)) {x0 : Int64} {x2 : Int64} {x4 : Int32} {x5 : Int64} {x7 : Int64} {S : dk_S}  (hF : B_Model_lowest_16b n k16 x0 x2 x4 x5 x7 S = some res) : dk_J p l e rm_Model_lowest s m args below meth c g A Q 11 0 0 16 [(0, .long x0), (2, .long x2), (4, .int x4), (5, .long x5), (7, .long x7)] [] (wM g am S) := by
  unfold B_Model_lowest_16b at hF
  refine dk_lload (i := 7) X 4 rfl d_Model_lowest_16 ?_
  refine dk_lconst (v := 0) X (by decide) d_Model_lowest_18 ?_
  refine dk_lcmp X d_Model_lowest_19 ?_
  refine dk_if_eq (tgt := 41) X (by decide) d_Model_lowest_20 hF (fun hF => ?_) (fun hF => ?_)
  · refine dk_iload (i := 4) X 2 rfl d_Model_lowest_41 ?_
    refine dk_if_ne (tgt := 50) X (by decide) d_Model_lowest_43 hF (fun hF => ?_) (fun hF => ?_)
    · refine dk_lload_n (k := 2) (i := 2) X 1 rfl rfl d_Model_lowest_50 ?_
      exact dk_sub [3] rfl (kb_Model_lowest_51 (n := n) X hR   hF)
    · refine dk_lload_n (k := 0) (i := 0) X 0 rfl rfl d_Model_lowest_46 ?_
      refine dk_goto (tgt := 51) X (by decide) d_Model_lowest_47 ?_
      exact dk_sub [3] rfl (kb_Model_lowest_51 (n := n) X hR   hF)
  · refine dk_lload (i := 5) X 3 rfl d_Model_lowest_23 ?_
    refine dk_lload (i := 7) X 4 rfl d_Model_lowest_25 ?_
    have hF0 := dk_g_out hF
    have hF := hF0.2
    refine dk_lrem X hF0.1 d_Model_lowest_27 ?_
    refine dk_lstore (i := 9) (lv' := [(9, .long (x5 - x5 / x7 * x7)), (0, .long x0), (2, .long x2), (4, .int x4), (5, .long x5), (7, .long x7)]) X (by decide) rfl d_Model_lowest_28 ?_
    refine dk_lload (i := 7) X 5 rfl d_Model_lowest_30 ?_
    refine dk_lstore (i := 5) (lv' := [(5, .long x7), (9, .long (x5 - x5 / x7 * x7)), (0, .long x0), (2, .long x2), (4, .int x4), (7, .long x7)]) X (by decide) rfl d_Model_lowest_32 ?_
    refine dk_lload (i := 9) X 1 rfl d_Model_lowest_34 ?_
    refine dk_lstore (i := 7) (lv' := [(7, .long (x5 - x5 / x7 * x7)), (5, .long x7), (9, .long (x5 - x5 / x7 * x7)), (0, .long x0), (2, .long x2), (4, .int x4)]) X (by decide) rfl d_Model_lowest_36 ?_
    refine dk_goto (tgt := 16) X (by decide) d_Model_lowest_38 ?_
    exact dk_sub [3, 4, 5, 1, 0] rfl (hk16 x0 x2 x4 x7 (x5 - x5 / x7 * x7) S hF)
def B_Model_lowest_16 (n : Nat)  : Nat → Int64 → Int64 → Int32 → Int64 → Int64 → dk_S → Option (Int64 × dk_S)
  | 0 => fun _ _ _ _ _ _ => none
  | q + 1 => fun x0 x2 x4 x5 x7 S => B_Model_lowest_16b n (fun x0 x2 x4 x5 x7 S => B_Model_lowest_16 n  q x0 x2 x4 x5 x7 S) x0 x2 x4 x5 x7 S
theorem kb_Model_lowest_16 {p : Program} {l : Launch} {e : Env} {s : State} {m : MethodId} {args : Array Value} {below : List Frame} {meth : Method} {c : Code} {g : dk_G} {A : Nat → Prop} {Q : State → Prop} {am : Nat → Nat} {n : Nat} {res : (Int64 × dk_S)} (X : dk_X p s m args meth c b_Model_lowest 11 R_Model (some .long) g A) (hR : dk_Rl p l e rm_Model_lowest s m args below meth c g A Q 11 b_Model_lowest (some .long) (wM g am) res)  : ∀ (q : Nat) (x0 : Int64) (x2 : Int64) (x4 : Int32) (x5 : Int64) (x7 : Int64)  (S : dk_S), B_Model_lowest_16 n  q x0 x2 x4 x5 x7 S = some res → dk_J p l e rm_Model_lowest s m args below meth c g A Q 11 0 0 16 [(0, .long x0), (2, .long x2), (4, .int x4), (5, .long x5), (7, .long x7)] [] (wM g am S) := by
  intro q
  induction q with
  | zero => intro x0 x2 x4 x5 x7  S hF; cases hF
  | succ q ih => intro x0 x2 x4 x5 x7  S hF; exact kb_Model_lowest_16b (n := n) X hR ih  hF
def B_Model_lowest_0 (n : Nat)  (x0 : Int64) (x2 : Int64) (x4 : Int32) (S : dk_S) : Option (Int64 × dk_S) :=
  if ¬ (lg_cmp x0 (0 : Int64)) = 0 then (B_Model_lowest_16 n  n x0 x2 x4 x0 x2 S) else (some (x4.toInt64, S))
set_option maxRecDepth 20000 in
theorem kb_Model_lowest_0 {p : Program} {l : Launch} {e : Env} {s : State} {m : MethodId} {args : Array Value} {below : List Frame} {meth : Method} {c : Code} {g : dk_G} {A : Nat → Prop} {Q : State → Prop} {am : Nat → Nat} {n : Nat} {res : (Int64 × dk_S)} (X : dk_X p s m args meth c b_Model_lowest 11 R_Model (some .long) g A) (hR : dk_Rl p l e rm_Model_lowest s m args below meth c g A Q 11 b_Model_lowest (some .long) (wM g am) res)  {x0 : Int64} {x2 : Int64} {x4 : Int32} {S : dk_S}  (hF : B_Model_lowest_0 n  x0 x2 x4 S = some res) : dk_J p l e rm_Model_lowest s m args below meth c g A Q 11 0 0 0 [(0, .long x0), (2, .long x2), (4, .int x4)] [] (wM g am S) := by
  unfold B_Model_lowest_0 at hF
  refine dk_lload_n (k := 0) (i := 0) X 0 rfl rfl d_Model_lowest_0 ?_
  refine dk_lconst (v := 0) X (by decide) d_Model_lowest_1 ?_
  refine dk_lcmp X d_Model_lowest_2 ?_
  refine dk_if_ne (tgt := 10) X (by decide) d_Model_lowest_3 hF (fun hF => ?_) (fun hF => ?_)
  · refine dk_lload_n (k := 0) (i := 0) X 0 rfl rfl d_Model_lowest_10 ?_
    refine dk_lstore (i := 5) (lv' := [(5, .long x0), (0, .long x0), (2, .long x2), (4, .int x4)]) X (by decide) rfl d_Model_lowest_11 ?_
    refine dk_lload_n (k := 2) (i := 2) X 2 rfl rfl d_Model_lowest_13 ?_
    refine dk_lstore (i := 7) (lv' := [(7, .long x2), (5, .long x0), (0, .long x0), (2, .long x2), (4, .int x4)]) X (by decide) rfl d_Model_lowest_14 ?_
    exact dk_sub [2, 3, 4, 1, 0] rfl (kb_Model_lowest_16 (n := n) X hR  n x0 x2 x4 x0 x2 S hF)
  · refine dk_iload (i := 4) X 2 rfl d_Model_lowest_6 ?_
    refine dk_i2l X d_Model_lowest_8 ?_
    exact dk_retl hR hF d_Model_lowest_9
def F_Model_lowest (n : Nat) (x0 : Int64) (x2 : Int64) (x4 : Int32) (S : dk_S) : Option (Int64 × dk_S) := B_Model_lowest_0 n x0 x2 x4 S
theorem c_Model_lowest (l : Launch) (g : dk_G) (am : Nat → Nat) (n : Nat) (x0 : Int64) (x2 : Int64) (x4 : Int32)  (S : dk_S) : dk_Ml l g y_Model_lowest b_Model_lowest 11 rm_Model_lowest (some .long) [.long x0, .long x2, .int x4] (wM g am) S (F_Model_lowest n x0 x2 x4 S) := dk_enterl (by decide) rfl (Nat.le_of_ble_eq_true rfl) (fun p e s m args below meth c A Q res hF X hR => (kb_Model_lowest_0 (n := n) X hR  hF))
abbrev b_Model_share : ByteArray := prog_11_method_60_code
def y_Model_share : MethodName := ⟨R_Model, "share", "(IIII)J"⟩
theorem d_Model_share_0 : decode b_Model_share 0 = .ok (.aload_n 0, 1) := by decide +kernel
theorem d_Model_share_1 : decode b_Model_share 1 = .ok (.iload_n 1, 1) := by decide +kernel
theorem d_Model_share_2 : decode b_Model_share 2 = .ok (.invokevirtual 158, 3) := by decide +kernel
theorem d_Model_share_5 : decode b_Model_share 5 = .ok (.ifCond .eq 35, 3) := by decide +kernel
theorem d_Model_share_8 : decode b_Model_share 8 = .ok (.iload_n 2, 1) := by decide +kernel
theorem d_Model_share_9 : decode b_Model_share 9 = .ok (.iconst 0, 1) := by decide +kernel
theorem d_Model_share_10 : decode b_Model_share 10 = .ok (.aload_n 0, 1) := by decide +kernel
theorem d_Model_share_11 : decode b_Model_share 11 = .ok (.getfield 151, 3) := by decide +kernel
theorem d_Model_share_14 : decode b_Model_share 14 = .ok (.invokestatic 144, 3) := by decide +kernel
theorem d_Model_share_17 : decode b_Model_share 17 = .ok (.ifCond .eq 23, 3) := by decide +kernel
theorem d_Model_share_20 : decode b_Model_share 20 = .ok (.iload_n 3, 1) := by decide +kernel
theorem d_Model_share_21 : decode b_Model_share 21 = .ok (.iconst 0, 1) := by decide +kernel
theorem d_Model_share_22 : decode b_Model_share 22 = .ok (.bipush 9, 2) := by decide +kernel
theorem d_Model_share_24 : decode b_Model_share 24 = .ok (.invokestatic 144, 3) := by decide +kernel
theorem d_Model_share_27 : decode b_Model_share 27 = .ok (.ifCond .eq 13, 3) := by decide +kernel
theorem d_Model_share_30 : decode b_Model_share 30 = .ok (.iload 4, 2) := by decide +kernel
theorem d_Model_share_32 : decode b_Model_share 32 = .ok (.iconst 0, 1) := by decide +kernel
theorem d_Model_share_33 : decode b_Model_share 33 = .ok (.iconst 1, 1) := by decide +kernel
theorem d_Model_share_34 : decode b_Model_share 34 = .ok (.invokestatic 144, 3) := by decide +kernel
theorem d_Model_share_37 : decode b_Model_share 37 = .ok (.ifCond .ne 7, 3) := by decide +kernel
theorem d_Model_share_40 : decode b_Model_share 40 = .ok (.ldc2_w 300, 3) := by decide +kernel
theorem d_Model_share_43 : decode b_Model_share 43 = .ok (.lreturn, 1) := by decide +kernel
theorem d_Model_share_44 : decode b_Model_share 44 = .ok (.aload_n 0, 1) := by decide +kernel
theorem d_Model_share_45 : decode b_Model_share 45 = .ok (.iload_n 2, 1) := by decide +kernel
theorem d_Model_share_46 : decode b_Model_share 46 = .ok (.iconst 0, 1) := by decide +kernel
theorem d_Model_share_47 : decode b_Model_share 47 = .ok (.invokevirtual 280, 3) := by decide +kernel
theorem d_Model_share_50 : decode b_Model_share 50 = .ok (.lconst 0, 1) := by decide +kernel
theorem d_Model_share_51 : decode b_Model_share 51 = .ok (.lstore 5, 2) := by decide +kernel
theorem d_Model_share_53 : decode b_Model_share 53 = .ok (.lconst 0, 1) := by decide +kernel
theorem d_Model_share_54 : decode b_Model_share 54 = .ok (.lstore 7, 2) := by decide +kernel
theorem d_Model_share_56 : decode b_Model_share 56 = .ok (.iconst 0, 1) := by decide +kernel
theorem d_Model_share_57 : decode b_Model_share 57 = .ok (.istore 9, 2) := by decide +kernel
theorem d_Model_share_59 : decode b_Model_share 59 = .ok (.iload 9, 2) := by decide +kernel
theorem d_Model_share_61 : decode b_Model_share 61 = .ok (.aload_n 0, 1) := by decide +kernel
theorem d_Model_share_62 : decode b_Model_share 62 = .ok (.getfield 246, 3) := by decide +kernel
theorem d_Model_share_65 : decode b_Model_share 65 = .ok (.if_icmp .ge 68, 3) := by decide +kernel
theorem d_Model_share_68 : decode b_Model_share 68 = .ok (.aload_n 0, 1) := by decide +kernel
theorem d_Model_share_69 : decode b_Model_share 69 = .ok (.getfield 56, 3) := by decide +kernel
theorem d_Model_share_72 : decode b_Model_share 72 = .ok (.iload 9, 2) := by decide +kernel
theorem d_Model_share_74 : decode b_Model_share 74 = .ok (.iaload, 1) := by decide +kernel
theorem d_Model_share_75 : decode b_Model_share 75 = .ok (.iload_n 1, 1) := by decide +kernel
theorem d_Model_share_76 : decode b_Model_share 76 = .ok (.if_icmp .ne 51, 3) := by decide +kernel
theorem d_Model_share_79 : decode b_Model_share 79 = .ok (.aload_n 0, 1) := by decide +kernel
theorem d_Model_share_80 : decode b_Model_share 80 = .ok (.iload 9, 2) := by decide +kernel
theorem d_Model_share_82 : decode b_Model_share 82 = .ok (.invokevirtual 271, 3) := by decide +kernel
theorem d_Model_share_85 : decode b_Model_share 85 = .ok (.ifCond .eq 42, 3) := by decide +kernel
theorem d_Model_share_88 : decode b_Model_share 88 = .ok (.aload_n 0, 1) := by decide +kernel
theorem d_Model_share_89 : decode b_Model_share 89 = .ok (.iload 9, 2) := by decide +kernel
theorem d_Model_share_91 : decode b_Model_share 91 = .ok (.invokevirtual 274, 3) := by decide +kernel
theorem d_Model_share_94 : decode b_Model_share 94 = .ok (.istore 10, 2) := by decide +kernel
theorem d_Model_share_96 : decode b_Model_share 96 = .ok (.lload 5, 2) := by decide +kernel
theorem d_Model_share_98 : decode b_Model_share 98 = .ok (.aload_n 0, 1) := by decide +kernel
theorem d_Model_share_99 : decode b_Model_share 99 = .ok (.getfield 53, 3) := by decide +kernel
theorem d_Model_share_102 : decode b_Model_share 102 = .ok (.iload 9, 2) := by decide +kernel
theorem d_Model_share_104 : decode b_Model_share 104 = .ok (.iaload, 1) := by decide +kernel
theorem d_Model_share_105 : decode b_Model_share 105 = .ok (.iload_n 3, 1) := by decide +kernel
theorem d_Model_share_106 : decode b_Model_share 106 = .ok (.if_icmp .ne 9, 3) := by decide +kernel
theorem d_Model_share_109 : decode b_Model_share 109 = .ok (.iload 10, 2) := by decide +kernel
theorem d_Model_share_111 : decode b_Model_share 111 = .ok (.i2l, 1) := by decide +kernel
theorem d_Model_share_112 : decode b_Model_share 112 = .ok (.goto 4, 3) := by decide +kernel
theorem d_Model_share_115 : decode b_Model_share 115 = .ok (.lconst 0, 1) := by decide +kernel
theorem d_Model_share_116 : decode b_Model_share 116 = .ok (.ladd, 1) := by decide +kernel
theorem d_Model_share_117 : decode b_Model_share 117 = .ok (.lstore 5, 2) := by decide +kernel
theorem d_Model_share_119 : decode b_Model_share 119 = .ok (.lload 7, 2) := by decide +kernel
theorem d_Model_share_121 : decode b_Model_share 121 = .ok (.iload 10, 2) := by decide +kernel
theorem d_Model_share_123 : decode b_Model_share 123 = .ok (.i2l, 1) := by decide +kernel
theorem d_Model_share_124 : decode b_Model_share 124 = .ok (.ladd, 1) := by decide +kernel
theorem d_Model_share_125 : decode b_Model_share 125 = .ok (.lstore 7, 2) := by decide +kernel
theorem d_Model_share_127 : decode b_Model_share 127 = .ok (.iinc 9 1, 3) := by decide +kernel
theorem d_Model_share_130 : decode b_Model_share 130 = .ok (.goto (-71), 3) := by decide +kernel
theorem d_Model_share_133 : decode b_Model_share 133 = .ok (.lload 5, 2) := by decide +kernel
theorem d_Model_share_135 : decode b_Model_share 135 = .ok (.lload 7, 2) := by decide +kernel
theorem d_Model_share_137 : decode b_Model_share 137 = .ok (.iload 4, 2) := by decide +kernel
theorem d_Model_share_139 : decode b_Model_share 139 = .ok (.invokestatic 302, 3) := by decide +kernel
theorem d_Model_share_142 : decode b_Model_share 142 = .ok (.lreturn, 1) := by decide +kernel
theorem v_Model_share : dk_Yv y_Model_share b_Model_share 11 (some .long) 4 := ⟨dk_in (List.mem_of_getElem? (i := 1338) (by decide +kernel)) rfl, dk_in (List.mem_of_getElem? (i := 1339) (by decide +kernel)) rfl, dk_in (List.mem_of_getElem? (i := 75) (by decide +kernel)) rfl, dk_in (List.mem_of_getElem? (i := 1340) (by decide +kernel)) rfl, by decide +kernel, by decide +kernel, by decide +kernel⟩
abbrev rm_Model_share : Room := { frames := 4, cells := 0, slots := 0, locals := 98 }
theorem k_Model_300 : Cond.constantLong R_Model 300 (-4611686018427387904) ∈ dk_tb := dk_in (List.mem_of_getElem? (i := 1341) (by decide +kernel)) rfl
theorem m_Model_302 : Cond.methodLink R_Model 302 y_Model_lowest ∈ dk_tb := dk_in (List.mem_of_getElem? (i := 1342) (by decide +kernel)) rfl
def B_Model_share_40 (n : Nat)   (S : dk_S) : Option (Int64 × dk_S) :=
  some ((-4611686018427387904 : Int64), S)
set_option maxRecDepth 20000 in
theorem kb_Model_share_40 {p : Program} {l : Launch} {e : Env} {s : State} {m : MethodId} {args : Array Value} {below : List Frame} {meth : Method} {c : Code} {g : dk_G} {A : Nat → Prop} {Q : State → Prop} {am : Nat → Nat} {n : Nat} {res : (Int64 × dk_S)} (X : dk_X p s m args meth c b_Model_share 11 R_Model (some .long) g A) (hR : dk_Rl p l e rm_Model_share s m args below meth c g A Q 11 b_Model_share (some .long) (wM g am) res)   {S : dk_S}  (hF : B_Model_share_40 n   S = some res) : dk_J p l e rm_Model_share s m args below meth c g A Q 11 0 0 40 [] [] (wM g am S) := by
  unfold B_Model_share_40 at hF
  refine dk_ldc2 (v := -4611686018427387904) X k_Model_300 d_Model_share_40 ?_
  exact dk_retl hR hF d_Model_share_43
def B_Model_share_127 (n : Nat) (k59 : Int32 → Int32 → Int32 → Int64 → Int64 → Int32 → dk_S → Option (Int64 × dk_S)) (x1 : Int32) (x3 : Int32) (x4 : Int32) (x5 : Int64) (x7 : Int64) (x9 : Int32) (S : dk_S) : Option (Int64 × dk_S) :=
  k59 x1 x3 x4 x5 x7 (x9 + (1 : Int32)) S
set_option maxRecDepth 20000 in
theorem kb_Model_share_127 {p : Program} {l : Launch} {e : Env} {s : State} {m : MethodId} {args : Array Value} {below : List Frame} {meth : Method} {c : Code} {g : dk_G} {A : Nat → Prop} {Q : State → Prop} {am : Nat → Nat} {n : Nat} {res : (Int64 × dk_S)} (X : dk_X p s m args meth c b_Model_share 11 R_Model (some .long) g A) (hR : dk_Rl p l e rm_Model_share s m args below meth c g A Q 11 b_Model_share (some .long) (wM g am) res) {k59 : Int32 → Int32 → Int32 → Int64 → Int64 → Int32 → dk_S → Option (Int64 × dk_S)} (hk59 : ∀ (x1 : Int32) (x3 : Int32) (x4 : Int32) (x5 : Int64) (x7 : Int64) (x9 : Int32)  (S : dk_S), k59 x1 x3 x4 x5 x7 x9 S = some res → dk_J p l e rm_Model_share s m args below meth c g A Q 11 0 0 59 [(0, .ref (am 0)), (1, .int x1), (3, .int x3), (4, .int x4), (5, .long x5), (7, .long x7), (9, .int x9)] [] (wM g am S)) {x1 : Int32} {x3 : Int32} {x4 : Int32} {x5 : Int64} {x7 : Int64} {x9 : Int32} {S : dk_S}  (hF : B_Model_share_127 n k59 x1 x3 x4 x5 x7 x9 S = some res) : dk_J p l e rm_Model_share s m args below meth c g A Q 11 0 0 127 [(0, .ref (am 0)), (1, .int x1), (3, .int x3), (4, .int x4), (5, .long x5), (7, .long x7), (9, .int x9)] [] (wM g am S) := by
  unfold B_Model_share_127 at hF
  refine dk_iinc (i := 9) (v := (x9 + (1 : Int32))) (lv' := [(9, .int (x9 + (1 : Int32))), (0, .ref (am 0)), (1, .int x1), (3, .int x3), (4, .int x4), (5, .long x5), (7, .long x7)]) X 6 rfl (dk_ii _ (by decide)) (by decide) rfl d_Model_share_127 ?_
  refine dk_goto (tgt := 59) X (by decide) d_Model_share_130 ?_
  exact dk_sub [1, 2, 3, 4, 5, 6, 0] rfl (hk59 x1 x3 x4 x5 x7 (x9 + (1 : Int32)) S hF)
def B_Model_share_116 (n : Nat) (k59 : Int32 → Int32 → Int32 → Int64 → Int64 → Int32 → dk_S → Option (Int64 × dk_S)) (x1 : Int32) (x3 : Int32) (x4 : Int32) (x7 : Int64) (x9 : Int32) (x10 : Int32) (u0 : Int64) (u1 : Int64) (S : dk_S) : Option (Int64 × dk_S) :=
  B_Model_share_127 n k59 x1 x3 x4 (u0 + u1) (x7 + x10.toInt64) x9 S
set_option maxRecDepth 20000 in
theorem kb_Model_share_116 {p : Program} {l : Launch} {e : Env} {s : State} {m : MethodId} {args : Array Value} {below : List Frame} {meth : Method} {c : Code} {g : dk_G} {A : Nat → Prop} {Q : State → Prop} {am : Nat → Nat} {n : Nat} {res : (Int64 × dk_S)} (X : dk_X p s m args meth c b_Model_share 11 R_Model (some .long) g A) (hR : dk_Rl p l e rm_Model_share s m args below meth c g A Q 11 b_Model_share (some .long) (wM g am) res) {k59 : Int32 → Int32 → Int32 → Int64 → Int64 → Int32 → dk_S → Option (Int64 × dk_S)} (hk59 : ∀ (x1 : Int32) (x3 : Int32) (x4 : Int32) (x5 : Int64) (x7 : Int64) (x9 : Int32)  (S : dk_S), k59 x1 x3 x4 x5 x7 x9 S = some res → dk_J p l e rm_Model_share s m args below meth c g A Q 11 0 0 59 [(0, .ref (am 0)), (1, .int x1), (3, .int x3), (4, .int x4), (5, .long x5), (7, .long x7), (9, .int x9)] [] (wM g am S)) {x1 : Int32} {x3 : Int32} {x4 : Int32} {x7 : Int64} {x9 : Int32} {x10 : Int32} {u0 : Int64} {u1 : Int64} {S : dk_S}  (hF : B_Model_share_116 n k59 x1 x3 x4 x7 x9 x10 u0 u1 S = some res) : dk_J p l e rm_Model_share s m args below meth c g A Q 11 0 0 116 [(0, .ref (am 0)), (1, .int x1), (3, .int x3), (4, .int x4), (7, .long x7), (9, .int x9), (10, .int x10)] [.long u1, .long u0] (wM g am S) := by
  unfold B_Model_share_116 at hF
  refine dk_ladd X d_Model_share_116 ?_
  refine dk_lstore (i := 5) (lv' := [(5, .long (u0 + u1)), (0, .ref (am 0)), (1, .int x1), (3, .int x3), (4, .int x4), (7, .long x7), (9, .int x9), (10, .int x10)]) X (by decide) rfl d_Model_share_117 ?_
  refine dk_lload (i := 7) X 5 rfl d_Model_share_119 ?_
  refine dk_iload (i := 10) X 7 rfl d_Model_share_121 ?_
  refine dk_i2l X d_Model_share_123 ?_
  refine dk_ladd X d_Model_share_124 ?_
  refine dk_lstore (i := 7) (lv' := [(7, .long (x7 + x10.toInt64)), (5, .long (u0 + u1)), (0, .ref (am 0)), (1, .int x1), (3, .int x3), (4, .int x4), (9, .int x9), (10, .int x10)]) X (by decide) rfl d_Model_share_125 ?_
  exact dk_sub [2, 3, 4, 5, 1, 0, 6] rfl (kb_Model_share_127 (n := n) X hR hk59  hF)
def B_Model_share_59b (n : Nat) (k59 : Int32 → Int32 → Int32 → Int64 → Int64 → Int32 → dk_S → Option (Int64 × dk_S)) (x1 : Int32) (x3 : Int32) (x4 : Int32) (x5 : Int64) (x7 : Int64) (x9 : Int32) (S : dk_S) : Option (Int64 × dk_S) :=
  if (S 18 0) ≤ x9 then (dk_c (F_Model_lowest n x5 x7 x4 S) fun r2 S1 => some (r2, S1)) else (dk_r 44 (S 21) x9 fun v3 => if ¬ v3 = x1 then (B_Model_share_127 n k59 x1 x3 x4 x5 x7 x9 S) else (dk_c (F_Model_stands n x9 S) fun r5 S4 => if r5 = 0 then (B_Model_share_127 n k59 x1 x3 x4 x5 x7 x9 S4) else (dk_c (F_Model_worthOf n x9 S4) fun r7 S6 => dk_r 44 (S6 20) x9 fun v8 => if ¬ v8 = x3 then (B_Model_share_116 n k59 x1 x3 x4 x7 x9 r7 x5 (0 : Int64) S6) else (B_Model_share_116 n k59 x1 x3 x4 x7 x9 r7 x5 r7.toInt64 S6))))
set_option maxRecDepth 20000 in
theorem kb_Model_share_59b {p : Program} {l : Launch} {e : Env} {s : State} {m : MethodId} {args : Array Value} {below : List Frame} {meth : Method} {c : Code} {g : dk_G} {A : Nat → Prop} {Q : State → Prop} {am : Nat → Nat} {n : Nat} {res : (Int64 × dk_S)} (X : dk_X p s m args meth c b_Model_share 11 R_Model (some .long) g A) (hR : dk_Rl p l e rm_Model_share s m args below meth c g A Q 11 b_Model_share (some .long) (wM g am) res) {k59 : Int32 → Int32 → Int32 → Int64 → Int64 → Int32 → dk_S → Option (Int64 × dk_S)} (hk59 : ∀ (x1 : Int32) (x3 : Int32) (x4 : Int32) (x5 : Int64) (x7 : Int64) (x9 : Int32)  (S : dk_S), k59 x1 x3 x4 x5 x7 x9 S = some res → dk_J p l e rm_Model_share s m args below meth c g A Q 11 0 0 59 [(0, .ref (am 0)), (1, .int x1), (3, .int x3), (4, .int x4), (5, .long x5), (7, .long x7), (9, .int x9)] [] (wM g am S)) {x1 : Int32} {x3 : Int32} {x4 : Int32} {x5 : Int64} {x7 : Int64} {x9 : Int32} {S : dk_S}  (hF : B_Model_share_59b n k59 x1 x3 x4 x5 x7 x9 S = some res) : dk_J p l e rm_Model_share s m args below meth c g A Q 11 0 0 59 [(0, .ref (am 0)), (1, .int x1), (3, .int x3), (4, .int x4), (5, .long x5), (7, .long x7), (9, .int x9)] [] (wM g am S) := by
  unfold B_Model_share_59b at hF
  refine dk_iload (i := 9) X 6 rfl d_Model_share_59 ?_
  refine dk_aload_n (k := 0) (i := 0) X 0 rfl rfl d_Model_share_61 ?_
  refine dk_get X q_Model 0 18 (by decide) (oM_Model g am S) rfl f_Model_246 d_Model_share_62 ?_
  refine dk_icmp_ge (tgt := 133) X (by decide) d_Model_share_65 hF (fun hF => ?_) (fun hF => ?_)
  · refine dk_lload (i := 5) X 4 rfl d_Model_share_133 ?_
    refine dk_lload (i := 7) X 5 rfl d_Model_share_135 ?_
    refine dk_iload (i := 4) X 3 rfl d_Model_share_137 ?_
    refine dk_callSl X v_Model_lowest [.long x5, .long x7, .int x4] (c_Model_lowest l g am n x5 x7 x4 S) m_Model_302 rfl rfl ⟨rfl, rfl, Nat.le_of_ble_eq_true rfl, Nat.le_of_ble_eq_true rfl, Nat.le_refl _, Nat.le_refl _⟩ (Nat.le_of_ble_eq_true rfl) d_Model_share_139 hF (fun r2 S1 hF => ?_)
    exact dk_retl hR hF d_Model_share_142
  · refine dk_aload_n (k := 0) (i := 0) X 0 rfl rfl d_Model_share_68 ?_
    refine dk_get X q_Model 0 21 (by decide) (oM_Model g am S) rfl f_Model_56 d_Model_share_69 ?_
    refine dk_iload (i := 9) X 6 rfl d_Model_share_72 ?_
    refine dk_iald X 15 (aM_15 g am S) d_Model_share_74 hF (fun v3 hF => ?_)
    refine dk_iload_n (k := 1) (i := 1) X 1 rfl rfl d_Model_share_75 ?_
    refine dk_icmp_ne (tgt := 127) X (by decide) d_Model_share_76 hF (fun hF => ?_) (fun hF => ?_)
    · exact (kb_Model_share_127 (n := n) X hR hk59  hF)
    · refine dk_aload_n (k := 0) (i := 0) X 0 rfl rfl d_Model_share_79 ?_
      refine dk_iload (i := 9) X 6 rfl d_Model_share_80 ?_
      refine dk_callVi X v_Model_stands [.int x9] (c_Model_stands l g am n x9 S) 0 (oM_Model g am S) rfl rfl m_Model_271 rfl rfl ⟨rfl, rfl, Nat.le_of_ble_eq_true rfl, Nat.le_of_ble_eq_true rfl, Nat.le_refl _, Nat.le_refl _⟩ (Nat.le_of_ble_eq_true rfl) d_Model_share_82 hF (fun r5 S4 hF => ?_)
      refine dk_if_eq (tgt := 127) X (by decide) d_Model_share_85 hF (fun hF => ?_) (fun hF => ?_)
      · exact (kb_Model_share_127 (n := n) X hR hk59  hF)
      · refine dk_aload_n (k := 0) (i := 0) X 0 rfl rfl d_Model_share_88 ?_
        refine dk_iload (i := 9) X 6 rfl d_Model_share_89 ?_
        refine dk_callVi X v_Model_worthOf [.int x9] (c_Model_worthOf l g am n x9 S4) 0 (oM_Model g am S4) rfl rfl m_Model_274 rfl rfl ⟨rfl, rfl, Nat.le_of_ble_eq_true rfl, Nat.le_of_ble_eq_true rfl, Nat.le_refl _, Nat.le_refl _⟩ (Nat.le_of_ble_eq_true rfl) d_Model_share_91 hF (fun r7 S6 hF => ?_)
        refine dk_istore (i := 10) (lv' := [(10, .int r7), (0, .ref (am 0)), (1, .int x1), (3, .int x3), (4, .int x4), (5, .long x5), (7, .long x7), (9, .int x9)]) X (by decide) rfl d_Model_share_94 ?_
        refine dk_lload (i := 5) X 5 rfl d_Model_share_96 ?_
        refine dk_aload_n (k := 0) (i := 0) X 1 rfl rfl d_Model_share_98 ?_
        refine dk_get X q_Model 0 20 (by decide) (oM_Model g am S6) rfl f_Model_53 d_Model_share_99 ?_
        refine dk_iload (i := 9) X 7 rfl d_Model_share_102 ?_
        refine dk_iald X 14 (aM_14 g am S6) d_Model_share_104 hF (fun v8 hF => ?_)
        refine dk_iload_n (k := 3) (i := 3) X 3 rfl rfl d_Model_share_105 ?_
        refine dk_icmp_ne (tgt := 115) X (by decide) d_Model_share_106 hF (fun hF => ?_) (fun hF => ?_)
        · refine dk_lconst (v := 0) X (by decide) d_Model_share_115 ?_
          exact dk_sub [1, 2, 3, 4, 6, 7, 0] rfl (kb_Model_share_116 (n := n) X hR hk59  hF)
        · refine dk_iload (i := 10) X 0 rfl d_Model_share_109 ?_
          refine dk_i2l X d_Model_share_111 ?_
          refine dk_goto (tgt := 116) X (by decide) d_Model_share_112 ?_
          exact dk_sub [1, 2, 3, 4, 6, 7, 0] rfl (kb_Model_share_116 (n := n) X hR hk59  hF)
def B_Model_share_59 (n : Nat)  : Nat → Int32 → Int32 → Int32 → Int64 → Int64 → Int32 → dk_S → Option (Int64 × dk_S)
  | 0 => fun _ _ _ _ _ _ _ => none
  | q + 1 => fun x1 x3 x4 x5 x7 x9 S => B_Model_share_59b n (fun x1 x3 x4 x5 x7 x9 S => B_Model_share_59 n  q x1 x3 x4 x5 x7 x9 S) x1 x3 x4 x5 x7 x9 S
theorem kb_Model_share_59 {p : Program} {l : Launch} {e : Env} {s : State} {m : MethodId} {args : Array Value} {below : List Frame} {meth : Method} {c : Code} {g : dk_G} {A : Nat → Prop} {Q : State → Prop} {am : Nat → Nat} {n : Nat} {res : (Int64 × dk_S)} (X : dk_X p s m args meth c b_Model_share 11 R_Model (some .long) g A) (hR : dk_Rl p l e rm_Model_share s m args below meth c g A Q 11 b_Model_share (some .long) (wM g am) res)  : ∀ (q : Nat) (x1 : Int32) (x3 : Int32) (x4 : Int32) (x5 : Int64) (x7 : Int64) (x9 : Int32)  (S : dk_S), B_Model_share_59 n  q x1 x3 x4 x5 x7 x9 S = some res → dk_J p l e rm_Model_share s m args below meth c g A Q 11 0 0 59 [(0, .ref (am 0)), (1, .int x1), (3, .int x3), (4, .int x4), (5, .long x5), (7, .long x7), (9, .int x9)] [] (wM g am S) := by
  intro q
  induction q with
  | zero => intro x1 x3 x4 x5 x7 x9  S hF; cases hF
  | succ q ih => intro x1 x3 x4 x5 x7 x9  S hF; exact kb_Model_share_59b (n := n) X hR ih  hF
def B_Model_share_0 (n : Nat)  (x1 : Int32) (x2 : Int32) (x3 : Int32) (x4 : Int32) (S : dk_S) : Option (Int64 × dk_S) :=
  dk_c (F_Model_isBeast n x1 S) fun r10 S9 => if r10 = 0 then (B_Model_share_40 n  S9) else (dk_c (F_Model_in n x2 (0 : Int32) (S9 5 0) S9) fun r12 S11 => if r12 = 0 then (B_Model_share_40 n  S11) else (dk_c (F_Model_in n x3 (0 : Int32) (9 : Int32) S11) fun r14 S13 => if r14 = 0 then (B_Model_share_40 n  S13) else (dk_c (F_Model_in n x4 (0 : Int32) (1 : Int32) S13) fun r16 S15 => if ¬ r16 = 0 then (dk_cv (F_Model_works n x2 (0 : Int32) S15) fun S17 => B_Model_share_59 n  n x1 x3 x4 (0 : Int64) (0 : Int64) (0 : Int32) S17) else (B_Model_share_40 n  S15))))
set_option maxRecDepth 20000 in
theorem kb_Model_share_0 {p : Program} {l : Launch} {e : Env} {s : State} {m : MethodId} {args : Array Value} {below : List Frame} {meth : Method} {c : Code} {g : dk_G} {A : Nat → Prop} {Q : State → Prop} {am : Nat → Nat} {n : Nat} {res : (Int64 × dk_S)} (X : dk_X p s m args meth c b_Model_share 11 R_Model (some .long) g A) (hR : dk_Rl p l e rm_Model_share s m args below meth c g A Q 11 b_Model_share (some .long) (wM g am) res)  {x1 : Int32} {x2 : Int32} {x3 : Int32} {x4 : Int32} {S : dk_S}  (hF : B_Model_share_0 n  x1 x2 x3 x4 S = some res) : dk_J p l e rm_Model_share s m args below meth c g A Q 11 0 0 0 [(0, .ref (am 0)), (1, .int x1), (2, .int x2), (3, .int x3), (4, .int x4)] [] (wM g am S) := by
  unfold B_Model_share_0 at hF
  refine dk_aload_n (k := 0) (i := 0) X 0 rfl rfl d_Model_share_0 ?_
  refine dk_iload_n (k := 1) (i := 1) X 1 rfl rfl d_Model_share_1 ?_
  refine dk_callVi X v_Model_isBeast [.int x1] (c_Model_isBeast l g am n x1 S) 0 (oM_Model g am S) rfl rfl m_Model_158 rfl rfl ⟨rfl, rfl, Nat.le_of_ble_eq_true rfl, Nat.le_of_ble_eq_true rfl, Nat.le_refl _, Nat.le_refl _⟩ (Nat.le_of_ble_eq_true rfl) d_Model_share_2 hF (fun r10 S9 hF => ?_)
  refine dk_if_eq (tgt := 40) X (by decide) d_Model_share_5 hF (fun hF => ?_) (fun hF => ?_)
  · exact dk_sub [] rfl (kb_Model_share_40 (n := n) X hR   hF)
  · refine dk_iload_n (k := 2) (i := 2) X 2 rfl rfl d_Model_share_8 ?_
    refine dk_iconst (v := 0) X (by decide) d_Model_share_9 ?_
    refine dk_aload_n (k := 0) (i := 0) X 0 rfl rfl d_Model_share_10 ?_
    refine dk_get X q_Model 0 5 (by decide) (oM_Model g am S9) rfl f_Model_151 d_Model_share_11 ?_
    refine dk_callSi X v_Model_in [.int x2, .int (0 : Int32), .int (S9 5 0)] (c_Model_in l g am n x2 (0 : Int32) (S9 5 0) S9) m_Model_144 rfl rfl ⟨rfl, rfl, Nat.le_of_ble_eq_true rfl, Nat.le_of_ble_eq_true rfl, Nat.le_refl _, Nat.le_refl _⟩ (Nat.le_of_ble_eq_true rfl) d_Model_share_14 hF (fun r12 S11 hF => ?_)
    refine dk_if_eq (tgt := 40) X (by decide) d_Model_share_17 hF (fun hF => ?_) (fun hF => ?_)
    · exact dk_sub [] rfl (kb_Model_share_40 (n := n) X hR   hF)
    · refine dk_iload_n (k := 3) (i := 3) X 3 rfl rfl d_Model_share_20 ?_
      refine dk_iconst (v := 0) X (by decide) d_Model_share_21 ?_
      refine dk_bipush (v := 9) X (by decide) d_Model_share_22 ?_
      refine dk_callSi X v_Model_in [.int x3, .int (0 : Int32), .int (9 : Int32)] (c_Model_in l g am n x3 (0 : Int32) (9 : Int32) S11) m_Model_144 rfl rfl ⟨rfl, rfl, Nat.le_of_ble_eq_true rfl, Nat.le_of_ble_eq_true rfl, Nat.le_refl _, Nat.le_refl _⟩ (Nat.le_of_ble_eq_true rfl) d_Model_share_24 hF (fun r14 S13 hF => ?_)
      refine dk_if_eq (tgt := 40) X (by decide) d_Model_share_27 hF (fun hF => ?_) (fun hF => ?_)
      · exact dk_sub [] rfl (kb_Model_share_40 (n := n) X hR   hF)
      · refine dk_iload (i := 4) X 4 rfl d_Model_share_30 ?_
        refine dk_iconst (v := 0) X (by decide) d_Model_share_32 ?_
        refine dk_iconst (v := 1) X (by decide) d_Model_share_33 ?_
        refine dk_callSi X v_Model_in [.int x4, .int (0 : Int32), .int (1 : Int32)] (c_Model_in l g am n x4 (0 : Int32) (1 : Int32) S13) m_Model_144 rfl rfl ⟨rfl, rfl, Nat.le_of_ble_eq_true rfl, Nat.le_of_ble_eq_true rfl, Nat.le_refl _, Nat.le_refl _⟩ (Nat.le_of_ble_eq_true rfl) d_Model_share_34 hF (fun r16 S15 hF => ?_)
        refine dk_if_ne (tgt := 44) X (by decide) d_Model_share_37 hF (fun hF => ?_) (fun hF => ?_)
        · refine dk_aload_n (k := 0) (i := 0) X 0 rfl rfl d_Model_share_44 ?_
          refine dk_iload_n (k := 2) (i := 2) X 2 rfl rfl d_Model_share_45 ?_
          refine dk_iconst (v := 0) X (by decide) d_Model_share_46 ?_
          refine dk_callVv X v_Model_works [.int x2, .int (0 : Int32)] (c_Model_works l g am n x2 (0 : Int32) S15) 0 (oM_Model g am S15) rfl rfl m_Model_280 rfl rfl ⟨rfl, rfl, Nat.le_of_ble_eq_true rfl, Nat.le_of_ble_eq_true rfl, Nat.le_refl _, Nat.le_refl _⟩ (Nat.le_of_ble_eq_true rfl) d_Model_share_47 hF (fun S17 hF => ?_)
          refine dk_lconst (v := 0) X (by decide) d_Model_share_50 ?_
          refine dk_lstore (i := 5) (lv' := [(5, .long (0 : Int64)), (0, .ref (am 0)), (1, .int x1), (2, .int x2), (3, .int x3), (4, .int x4)]) X (by decide) rfl d_Model_share_51 ?_
          refine dk_lconst (v := 0) X (by decide) d_Model_share_53 ?_
          refine dk_lstore (i := 7) (lv' := [(7, .long (0 : Int64)), (5, .long (0 : Int64)), (0, .ref (am 0)), (1, .int x1), (2, .int x2), (3, .int x3), (4, .int x4)]) X (by decide) rfl d_Model_share_54 ?_
          refine dk_iconst (v := 0) X (by decide) d_Model_share_56 ?_
          refine dk_istore (i := 9) (lv' := [(9, .int (0 : Int32)), (7, .long (0 : Int64)), (5, .long (0 : Int64)), (0, .ref (am 0)), (1, .int x1), (2, .int x2), (3, .int x3), (4, .int x4)]) X (by decide) rfl d_Model_share_57 ?_
          exact dk_sub [3, 4, 6, 7, 2, 1, 0] rfl (kb_Model_share_59 (n := n) X hR  n x1 x3 x4 (0 : Int64) (0 : Int64) (0 : Int32) S17 hF)
        · exact dk_sub [] rfl (kb_Model_share_40 (n := n) X hR   hF)
def F_Model_share (n : Nat) (x1 : Int32) (x2 : Int32) (x3 : Int32) (x4 : Int32) (S : dk_S) : Option (Int64 × dk_S) := B_Model_share_0 n x1 x2 x3 x4 S
theorem c_Model_share (l : Launch) (g : dk_G) (am : Nat → Nat) (n : Nat) (x1 : Int32) (x2 : Int32) (x3 : Int32) (x4 : Int32)  (S : dk_S) : dk_Ml l g y_Model_share b_Model_share 11 rm_Model_share (some .long) [.ref (am 0), .int x1, .int x2, .int x3, .int x4] (wM g am) S (F_Model_share n x1 x2 x3 x4 S) := dk_enterl (by decide) rfl (Nat.le_of_ble_eq_true rfl) (fun p e s m args below meth c A Q res hF X hR => (kb_Model_share_0 (n := n) X hR  hF))
abbrev b_Model_doQuarrel : ByteArray := prog_11_method_61_code
def y_Model_doQuarrel : MethodName := ⟨R_Model, "doQuarrel", "(I)Z"⟩
theorem d_Model_doQuarrel_0 : decode b_Model_doQuarrel 0 = .ok (.aload_n 0, 1) := by decide +kernel
theorem d_Model_doQuarrel_1 : decode b_Model_doQuarrel 1 = .ok (.iload_n 1, 1) := by decide +kernel
theorem d_Model_doQuarrel_2 : decode b_Model_doQuarrel 2 = .ok (.invokevirtual 277, 3) := by decide +kernel
theorem d_Model_doQuarrel_5 : decode b_Model_doQuarrel 5 = .ok (.istore_n 2, 1) := by decide +kernel
theorem d_Model_doQuarrel_6 : decode b_Model_doQuarrel 6 = .ok (.iload_n 2, 1) := by decide +kernel
theorem d_Model_doQuarrel_7 : decode b_Model_doQuarrel 7 = .ok (.iconst (-1), 1) := by decide +kernel
theorem d_Model_doQuarrel_8 : decode b_Model_doQuarrel 8 = .ok (.if_icmp .ne 5, 3) := by decide +kernel
theorem d_Model_doQuarrel_11 : decode b_Model_doQuarrel 11 = .ok (.iconst 0, 1) := by decide +kernel
theorem d_Model_doQuarrel_12 : decode b_Model_doQuarrel 12 = .ok (.ireturn, 1) := by decide +kernel
theorem d_Model_doQuarrel_13 : decode b_Model_doQuarrel 13 = .ok (.aload_n 0, 1) := by decide +kernel
theorem d_Model_doQuarrel_14 : decode b_Model_doQuarrel 14 = .ok (.iload_n 2, 1) := by decide +kernel
theorem d_Model_doQuarrel_15 : decode b_Model_doQuarrel 15 = .ok (.invokevirtual 274, 3) := by decide +kernel
theorem d_Model_doQuarrel_18 : decode b_Model_doQuarrel 18 = .ok (.istore_n 3, 1) := by decide +kernel
theorem d_Model_doQuarrel_19 : decode b_Model_doQuarrel 19 = .ok (.iconst 0, 1) := by decide +kernel
theorem d_Model_doQuarrel_20 : decode b_Model_doQuarrel 20 = .ok (.istore 4, 2) := by decide +kernel
theorem d_Model_doQuarrel_22 : decode b_Model_doQuarrel 22 = .ok (.iload 4, 2) := by decide +kernel
theorem d_Model_doQuarrel_24 : decode b_Model_doQuarrel 24 = .ok (.aload_n 0, 1) := by decide +kernel
theorem d_Model_doQuarrel_25 : decode b_Model_doQuarrel 25 = .ok (.getfield 246, 3) := by decide +kernel
theorem d_Model_doQuarrel_28 : decode b_Model_doQuarrel 28 = .ok (.if_icmp .ge 57, 3) := by decide +kernel
theorem d_Model_doQuarrel_31 : decode b_Model_doQuarrel 31 = .ok (.aload_n 0, 1) := by decide +kernel
theorem d_Model_doQuarrel_32 : decode b_Model_doQuarrel 32 = .ok (.getfield 56, 3) := by decide +kernel
theorem d_Model_doQuarrel_35 : decode b_Model_doQuarrel 35 = .ok (.iload 4, 2) := by decide +kernel
theorem d_Model_doQuarrel_37 : decode b_Model_doQuarrel 37 = .ok (.iaload, 1) := by decide +kernel
theorem d_Model_doQuarrel_38 : decode b_Model_doQuarrel 38 = .ok (.iload_n 1, 1) := by decide +kernel
theorem d_Model_doQuarrel_39 : decode b_Model_doQuarrel 39 = .ok (.if_icmp .ne 40, 3) := by decide +kernel
theorem d_Model_doQuarrel_42 : decode b_Model_doQuarrel 42 = .ok (.aload_n 0, 1) := by decide +kernel
theorem d_Model_doQuarrel_43 : decode b_Model_doQuarrel 43 = .ok (.getfield 53, 3) := by decide +kernel
theorem d_Model_doQuarrel_46 : decode b_Model_doQuarrel 46 = .ok (.iload 4, 2) := by decide +kernel
theorem d_Model_doQuarrel_48 : decode b_Model_doQuarrel 48 = .ok (.iaload, 1) := by decide +kernel
theorem d_Model_doQuarrel_49 : decode b_Model_doQuarrel 49 = .ok (.aload_n 0, 1) := by decide +kernel
theorem d_Model_doQuarrel_50 : decode b_Model_doQuarrel 50 = .ok (.getfield 53, 3) := by decide +kernel
theorem d_Model_doQuarrel_53 : decode b_Model_doQuarrel 53 = .ok (.iload_n 2, 1) := by decide +kernel
theorem d_Model_doQuarrel_54 : decode b_Model_doQuarrel 54 = .ok (.iaload, 1) := by decide +kernel
theorem d_Model_doQuarrel_55 : decode b_Model_doQuarrel 55 = .ok (.if_icmp .eq 24, 3) := by decide +kernel
theorem d_Model_doQuarrel_58 : decode b_Model_doQuarrel 58 = .ok (.aload_n 0, 1) := by decide +kernel
theorem d_Model_doQuarrel_59 : decode b_Model_doQuarrel 59 = .ok (.iload 4, 2) := by decide +kernel
theorem d_Model_doQuarrel_61 : decode b_Model_doQuarrel 61 = .ok (.invokevirtual 271, 3) := by decide +kernel
theorem d_Model_doQuarrel_64 : decode b_Model_doQuarrel 64 = .ok (.ifCond .eq 15, 3) := by decide +kernel
theorem d_Model_doQuarrel_67 : decode b_Model_doQuarrel 67 = .ok (.aload_n 0, 1) := by decide +kernel
theorem d_Model_doQuarrel_68 : decode b_Model_doQuarrel 68 = .ok (.iload 4, 2) := by decide +kernel
theorem d_Model_doQuarrel_70 : decode b_Model_doQuarrel 70 = .ok (.invokevirtual 274, 3) := by decide +kernel
theorem d_Model_doQuarrel_73 : decode b_Model_doQuarrel 73 = .ok (.iload_n 3, 1) := by decide +kernel
theorem d_Model_doQuarrel_74 : decode b_Model_doQuarrel 74 = .ok (.if_icmp .ne 5, 3) := by decide +kernel
theorem d_Model_doQuarrel_77 : decode b_Model_doQuarrel 77 = .ok (.iconst 1, 1) := by decide +kernel
theorem d_Model_doQuarrel_78 : decode b_Model_doQuarrel 78 = .ok (.ireturn, 1) := by decide +kernel
theorem d_Model_doQuarrel_79 : decode b_Model_doQuarrel 79 = .ok (.iinc 4 1, 3) := by decide +kernel
theorem d_Model_doQuarrel_82 : decode b_Model_doQuarrel 82 = .ok (.goto (-60), 3) := by decide +kernel
theorem d_Model_doQuarrel_85 : decode b_Model_doQuarrel 85 = .ok (.iconst 0, 1) := by decide +kernel
theorem d_Model_doQuarrel_86 : decode b_Model_doQuarrel 86 = .ok (.ireturn, 1) := by decide +kernel
theorem v_Model_doQuarrel : dk_Yv y_Model_doQuarrel b_Model_doQuarrel 5 (some .boolean) 1 := ⟨dk_in (List.mem_of_getElem? (i := 1355) (by decide +kernel)) rfl, dk_in (List.mem_of_getElem? (i := 64) (by decide +kernel)) rfl, dk_in (List.mem_of_getElem? (i := 75) (by decide +kernel)) rfl, dk_in (List.mem_of_getElem? (i := 1356) (by decide +kernel)) rfl, by decide +kernel, by decide +kernel, by decide +kernel⟩
abbrev rm_Model_doQuarrel : Room := { frames := 5, cells := 0, slots := 0, locals := 116 }
def B_Model_doQuarrel_79 (n : Nat) (k22 : Int32 → Int32 → Int32 → Int32 → dk_S → Option (Int32 × dk_S)) (x1 : Int32) (x2 : Int32) (x3 : Int32) (x4 : Int32) (S : dk_S) : Option (Int32 × dk_S) :=
  k22 x1 x2 x3 (x4 + (1 : Int32)) S
set_option maxRecDepth 20000 in
theorem kb_Model_doQuarrel_79 {p : Program} {l : Launch} {e : Env} {s : State} {m : MethodId} {args : Array Value} {below : List Frame} {meth : Method} {c : Code} {g : dk_G} {A : Nat → Prop} {Q : State → Prop} {am : Nat → Nat} {n : Nat} {res : (Int32 × dk_S)} (X : dk_X p s m args meth c b_Model_doQuarrel 5 R_Model (some .boolean) g A) (hR : dk_Ri p l e rm_Model_doQuarrel s m args below meth c g A Q 5 b_Model_doQuarrel (some .boolean) (wM g am) res) {k22 : Int32 → Int32 → Int32 → Int32 → dk_S → Option (Int32 × dk_S)} (hk22 : ∀ (x1 : Int32) (x2 : Int32) (x3 : Int32) (x4 : Int32)  (S : dk_S), k22 x1 x2 x3 x4 S = some res → dk_J p l e rm_Model_doQuarrel s m args below meth c g A Q 5 0 0 22 [(0, .ref (am 0)), (1, .int x1), (2, .int x2), (3, .int x3), (4, .int x4)] [] (wM g am S)) {x1 : Int32} {x2 : Int32} {x3 : Int32} {x4 : Int32} {S : dk_S}  (hF : B_Model_doQuarrel_79 n k22 x1 x2 x3 x4 S = some res) : dk_J p l e rm_Model_doQuarrel s m args below meth c g A Q 5 0 0 79 [(0, .ref (am 0)), (1, .int x1), (2, .int x2), (3, .int x3), (4, .int x4)] [] (wM g am S) := by
  unfold B_Model_doQuarrel_79 at hF
  refine dk_iinc (i := 4) (v := (x4 + (1 : Int32))) (lv' := [(4, .int (x4 + (1 : Int32))), (0, .ref (am 0)), (1, .int x1), (2, .int x2), (3, .int x3)]) X 4 rfl (dk_ii _ (by decide)) (by decide) rfl d_Model_doQuarrel_79 ?_
  refine dk_goto (tgt := 22) X (by decide) d_Model_doQuarrel_82 ?_
  exact dk_sub [1, 2, 3, 4, 0] rfl (hk22 x1 x2 x3 (x4 + (1 : Int32)) S hF)
def B_Model_doQuarrel_22b (n : Nat) (k22 : Int32 → Int32 → Int32 → Int32 → dk_S → Option (Int32 × dk_S)) (x1 : Int32) (x2 : Int32) (x3 : Int32) (x4 : Int32) (S : dk_S) : Option (Int32 × dk_S) :=
  if (S 18 0) ≤ x4 then (dk_b (0 : Int32) (some ((0 : Int32), S))) else (dk_r 44 (S 21) x4 fun v1 => if ¬ v1 = x1 then (B_Model_doQuarrel_79 n k22 x1 x2 x3 x4 S) else (dk_r 44 (S 20) x4 fun v2 => dk_r 44 (S 20) x2 fun v3 => if v2 = v3 then (B_Model_doQuarrel_79 n k22 x1 x2 x3 x4 S) else (dk_c (F_Model_stands n x4 S) fun r5 S4 => if r5 = 0 then (B_Model_doQuarrel_79 n k22 x1 x2 x3 x4 S4) else (dk_c (F_Model_worthOf n x4 S4) fun r7 S6 => if ¬ r7 = x3 then (B_Model_doQuarrel_79 n k22 x1 x2 x3 x4 S6) else (dk_b (1 : Int32) (some ((1 : Int32), S6)))))))
set_option maxRecDepth 20000 in
theorem kb_Model_doQuarrel_22b {p : Program} {l : Launch} {e : Env} {s : State} {m : MethodId} {args : Array Value} {below : List Frame} {meth : Method} {c : Code} {g : dk_G} {A : Nat → Prop} {Q : State → Prop} {am : Nat → Nat} {n : Nat} {res : (Int32 × dk_S)} (X : dk_X p s m args meth c b_Model_doQuarrel 5 R_Model (some .boolean) g A) (hR : dk_Ri p l e rm_Model_doQuarrel s m args below meth c g A Q 5 b_Model_doQuarrel (some .boolean) (wM g am) res) {k22 : Int32 → Int32 → Int32 → Int32 → dk_S → Option (Int32 × dk_S)} (hk22 : ∀ (x1 : Int32) (x2 : Int32) (x3 : Int32) (x4 : Int32)  (S : dk_S), k22 x1 x2 x3 x4 S = some res → dk_J p l e rm_Model_doQuarrel s m args below meth c g A Q 5 0 0 22 [(0, .ref (am 0)), (1, .int x1), (2, .int x2), (3, .int x3), (4, .int x4)] [] (wM g am S)) {x1 : Int32} {x2 : Int32} {x3 : Int32} {x4 : Int32} {S : dk_S}  (hF : B_Model_doQuarrel_22b n k22 x1 x2 x3 x4 S = some res) : dk_J p l e rm_Model_doQuarrel s m args below meth c g A Q 5 0 0 22 [(0, .ref (am 0)), (1, .int x1), (2, .int x2), (3, .int x3), (4, .int x4)] [] (wM g am S) := by
  unfold B_Model_doQuarrel_22b at hF
  refine dk_iload (i := 4) X 4 rfl d_Model_doQuarrel_22 ?_
  refine dk_aload_n (k := 0) (i := 0) X 0 rfl rfl d_Model_doQuarrel_24 ?_
  refine dk_get X q_Model 0 18 (by decide) (oM_Model g am S) rfl f_Model_246 d_Model_doQuarrel_25 ?_
  refine dk_icmp_ge (tgt := 85) X (by decide) d_Model_doQuarrel_28 hF (fun hF => ?_) (fun hF => ?_)
  · refine dk_iconst (v := 0) X (by decide) d_Model_doQuarrel_85 ?_
    exact dk_retz hR hF d_Model_doQuarrel_86
  · refine dk_aload_n (k := 0) (i := 0) X 0 rfl rfl d_Model_doQuarrel_31 ?_
    refine dk_get X q_Model 0 21 (by decide) (oM_Model g am S) rfl f_Model_56 d_Model_doQuarrel_32 ?_
    refine dk_iload (i := 4) X 4 rfl d_Model_doQuarrel_35 ?_
    refine dk_iald X 15 (aM_15 g am S) d_Model_doQuarrel_37 hF (fun v1 hF => ?_)
    refine dk_iload_n (k := 1) (i := 1) X 1 rfl rfl d_Model_doQuarrel_38 ?_
    refine dk_icmp_ne (tgt := 79) X (by decide) d_Model_doQuarrel_39 hF (fun hF => ?_) (fun hF => ?_)
    · exact (kb_Model_doQuarrel_79 (n := n) X hR hk22  hF)
    · refine dk_aload_n (k := 0) (i := 0) X 0 rfl rfl d_Model_doQuarrel_42 ?_
      refine dk_get X q_Model 0 20 (by decide) (oM_Model g am S) rfl f_Model_53 d_Model_doQuarrel_43 ?_
      refine dk_iload (i := 4) X 4 rfl d_Model_doQuarrel_46 ?_
      refine dk_iald X 14 (aM_14 g am S) d_Model_doQuarrel_48 hF (fun v2 hF => ?_)
      refine dk_aload_n (k := 0) (i := 0) X 0 rfl rfl d_Model_doQuarrel_49 ?_
      refine dk_get X q_Model 0 20 (by decide) (oM_Model g am S) rfl f_Model_53 d_Model_doQuarrel_50 ?_
      refine dk_iload_n (k := 2) (i := 2) X 2 rfl rfl d_Model_doQuarrel_53 ?_
      refine dk_iald X 14 (aM_14 g am S) d_Model_doQuarrel_54 hF (fun v3 hF => ?_)
      refine dk_icmp_eq (tgt := 79) X (by decide) d_Model_doQuarrel_55 hF (fun hF => ?_) (fun hF => ?_)
      · exact (kb_Model_doQuarrel_79 (n := n) X hR hk22  hF)
      · refine dk_aload_n (k := 0) (i := 0) X 0 rfl rfl d_Model_doQuarrel_58 ?_
        refine dk_iload (i := 4) X 4 rfl d_Model_doQuarrel_59 ?_
        refine dk_callVi X v_Model_stands [.int x4] (c_Model_stands l g am n x4 S) 0 (oM_Model g am S) rfl rfl m_Model_271 rfl rfl ⟨rfl, rfl, Nat.le_of_ble_eq_true rfl, Nat.le_of_ble_eq_true rfl, Nat.le_refl _, Nat.le_refl _⟩ (Nat.le_of_ble_eq_true rfl) d_Model_doQuarrel_61 hF (fun r5 S4 hF => ?_)
        refine dk_if_eq (tgt := 79) X (by decide) d_Model_doQuarrel_64 hF (fun hF => ?_) (fun hF => ?_)
        · exact (kb_Model_doQuarrel_79 (n := n) X hR hk22  hF)
        · refine dk_aload_n (k := 0) (i := 0) X 0 rfl rfl d_Model_doQuarrel_67 ?_
          refine dk_iload (i := 4) X 4 rfl d_Model_doQuarrel_68 ?_
          refine dk_callVi X v_Model_worthOf [.int x4] (c_Model_worthOf l g am n x4 S4) 0 (oM_Model g am S4) rfl rfl m_Model_274 rfl rfl ⟨rfl, rfl, Nat.le_of_ble_eq_true rfl, Nat.le_of_ble_eq_true rfl, Nat.le_refl _, Nat.le_refl _⟩ (Nat.le_of_ble_eq_true rfl) d_Model_doQuarrel_70 hF (fun r7 S6 hF => ?_)
          refine dk_iload_n (k := 3) (i := 3) X 3 rfl rfl d_Model_doQuarrel_73 ?_
          refine dk_icmp_ne (tgt := 79) X (by decide) d_Model_doQuarrel_74 hF (fun hF => ?_) (fun hF => ?_)
          · exact (kb_Model_doQuarrel_79 (n := n) X hR hk22  hF)
          · refine dk_iconst (v := 1) X (by decide) d_Model_doQuarrel_77 ?_
            exact dk_retz hR hF d_Model_doQuarrel_78
def B_Model_doQuarrel_22 (n : Nat)  : Nat → Int32 → Int32 → Int32 → Int32 → dk_S → Option (Int32 × dk_S)
  | 0 => fun _ _ _ _ _ => none
  | q + 1 => fun x1 x2 x3 x4 S => B_Model_doQuarrel_22b n (fun x1 x2 x3 x4 S => B_Model_doQuarrel_22 n  q x1 x2 x3 x4 S) x1 x2 x3 x4 S
theorem kb_Model_doQuarrel_22 {p : Program} {l : Launch} {e : Env} {s : State} {m : MethodId} {args : Array Value} {below : List Frame} {meth : Method} {c : Code} {g : dk_G} {A : Nat → Prop} {Q : State → Prop} {am : Nat → Nat} {n : Nat} {res : (Int32 × dk_S)} (X : dk_X p s m args meth c b_Model_doQuarrel 5 R_Model (some .boolean) g A) (hR : dk_Ri p l e rm_Model_doQuarrel s m args below meth c g A Q 5 b_Model_doQuarrel (some .boolean) (wM g am) res)  : ∀ (q : Nat) (x1 : Int32) (x2 : Int32) (x3 : Int32) (x4 : Int32)  (S : dk_S), B_Model_doQuarrel_22 n  q x1 x2 x3 x4 S = some res → dk_J p l e rm_Model_doQuarrel s m args below meth c g A Q 5 0 0 22 [(0, .ref (am 0)), (1, .int x1), (2, .int x2), (3, .int x3), (4, .int x4)] [] (wM g am S) := by
  intro q
  induction q with
  | zero => intro x1 x2 x3 x4  S hF; cases hF
  | succ q ih => intro x1 x2 x3 x4  S hF; exact kb_Model_doQuarrel_22b (n := n) X hR ih  hF
def B_Model_doQuarrel_0 (n : Nat)  (x1 : Int32) (S : dk_S) : Option (Int32 × dk_S) :=
  dk_c (F_Model_winner n x1 S) fun r9 S8 => if ¬ r9 = (-1 : Int32) then (dk_c (F_Model_worthOf n r9 S8) fun r11 S10 => B_Model_doQuarrel_22 n  n x1 r9 r11 (0 : Int32) S10) else (dk_b (0 : Int32) (some ((0 : Int32), S8)))
set_option maxRecDepth 20000 in
theorem kb_Model_doQuarrel_0 {p : Program} {l : Launch} {e : Env} {s : State} {m : MethodId} {args : Array Value} {below : List Frame} {meth : Method} {c : Code} {g : dk_G} {A : Nat → Prop} {Q : State → Prop} {am : Nat → Nat} {n : Nat} {res : (Int32 × dk_S)} (X : dk_X p s m args meth c b_Model_doQuarrel 5 R_Model (some .boolean) g A) (hR : dk_Ri p l e rm_Model_doQuarrel s m args below meth c g A Q 5 b_Model_doQuarrel (some .boolean) (wM g am) res)  {x1 : Int32} {S : dk_S}  (hF : B_Model_doQuarrel_0 n  x1 S = some res) : dk_J p l e rm_Model_doQuarrel s m args below meth c g A Q 5 0 0 0 [(0, .ref (am 0)), (1, .int x1)] [] (wM g am S) := by
  unfold B_Model_doQuarrel_0 at hF
  refine dk_aload_n (k := 0) (i := 0) X 0 rfl rfl d_Model_doQuarrel_0 ?_
  refine dk_iload_n (k := 1) (i := 1) X 1 rfl rfl d_Model_doQuarrel_1 ?_
  refine dk_callVi X v_Model_winner [.int x1] (c_Model_winner l g am n x1 S) 0 (oM_Model g am S) rfl rfl m_Model_277 rfl rfl ⟨rfl, rfl, Nat.le_of_ble_eq_true rfl, Nat.le_of_ble_eq_true rfl, Nat.le_refl _, Nat.le_refl _⟩ (Nat.le_of_ble_eq_true rfl) d_Model_doQuarrel_2 hF (fun r9 S8 hF => ?_)
  refine dk_istore_n (k := 2) (i := 2) (lv' := [(2, .int r9), (0, .ref (am 0)), (1, .int x1)]) X rfl (by decide) rfl d_Model_doQuarrel_5 ?_
  refine dk_iload_n (k := 2) (i := 2) X 0 rfl rfl d_Model_doQuarrel_6 ?_
  refine dk_iconst (v := -1) X (by decide) d_Model_doQuarrel_7 ?_
  refine dk_icmp_ne (tgt := 13) X (by decide) d_Model_doQuarrel_8 hF (fun hF => ?_) (fun hF => ?_)
  · refine dk_aload_n (k := 0) (i := 0) X 1 rfl rfl d_Model_doQuarrel_13 ?_
    refine dk_iload_n (k := 2) (i := 2) X 0 rfl rfl d_Model_doQuarrel_14 ?_
    refine dk_callVi X v_Model_worthOf [.int r9] (c_Model_worthOf l g am n r9 S8) 0 (oM_Model g am S8) rfl rfl m_Model_274 rfl rfl ⟨rfl, rfl, Nat.le_of_ble_eq_true rfl, Nat.le_of_ble_eq_true rfl, Nat.le_refl _, Nat.le_refl _⟩ (Nat.le_of_ble_eq_true rfl) d_Model_doQuarrel_15 hF (fun r11 S10 hF => ?_)
    refine dk_istore_n (k := 3) (i := 3) (lv' := [(3, .int r11), (2, .int r9), (0, .ref (am 0)), (1, .int x1)]) X rfl (by decide) rfl d_Model_doQuarrel_18 ?_
    refine dk_iconst (v := 0) X (by decide) d_Model_doQuarrel_19 ?_
    refine dk_istore (i := 4) (lv' := [(4, .int (0 : Int32)), (3, .int r11), (2, .int r9), (0, .ref (am 0)), (1, .int x1)]) X (by decide) rfl d_Model_doQuarrel_20 ?_
    exact dk_sub [3, 4, 2, 1, 0] rfl (kb_Model_doQuarrel_22 (n := n) X hR  n x1 r9 r11 (0 : Int32) S10 hF)
  · refine dk_iconst (v := 0) X (by decide) d_Model_doQuarrel_11 ?_
    exact dk_retz hR hF d_Model_doQuarrel_12
def F_Model_doQuarrel (n : Nat) (x1 : Int32) (S : dk_S) : Option (Int32 × dk_S) := B_Model_doQuarrel_0 n x1 S
theorem c_Model_doQuarrel (l : Launch) (g : dk_G) (am : Nat → Nat) (n : Nat) (x1 : Int32)  (S : dk_S) : dk_Mi l g y_Model_doQuarrel b_Model_doQuarrel 5 rm_Model_doQuarrel (some .boolean) [.ref (am 0), .int x1] (wM g am) S (F_Model_doQuarrel n x1 S) := dk_enteri (by decide) (Nat.le_of_ble_eq_true rfl) (fun p e s m args below meth c A Q res hF X hR => (kb_Model_doQuarrel_0 (n := n) X hR  hF))
abbrev b_Model_quarrels : ByteArray := prog_11_method_62_code
def y_Model_quarrels : MethodName := ⟨R_Model, "quarrels", "(I)I"⟩
theorem d_Model_quarrels_0 : decode b_Model_quarrels 0 = .ok (.iconst 0, 1) := by decide +kernel
theorem d_Model_quarrels_1 : decode b_Model_quarrels 1 = .ok (.istore_n 2, 1) := by decide +kernel
theorem d_Model_quarrels_2 : decode b_Model_quarrels 2 = .ok (.iconst 0, 1) := by decide +kernel
theorem d_Model_quarrels_3 : decode b_Model_quarrels 3 = .ok (.istore_n 3, 1) := by decide +kernel
theorem d_Model_quarrels_4 : decode b_Model_quarrels 4 = .ok (.iload_n 3, 1) := by decide +kernel
theorem d_Model_quarrels_5 : decode b_Model_quarrels 5 = .ok (.aload_n 0, 1) := by decide +kernel
theorem d_Model_quarrels_6 : decode b_Model_quarrels 6 = .ok (.getfield 151, 3) := by decide +kernel
theorem d_Model_quarrels_9 : decode b_Model_quarrels 9 = .ok (.if_icmp .gt 31, 3) := by decide +kernel
theorem d_Model_quarrels_12 : decode b_Model_quarrels 12 = .ok (.aload_n 0, 1) := by decide +kernel
theorem d_Model_quarrels_13 : decode b_Model_quarrels 13 = .ok (.iload_n 3, 1) := by decide +kernel
theorem d_Model_quarrels_14 : decode b_Model_quarrels 14 = .ok (.iconst 0, 1) := by decide +kernel
theorem d_Model_quarrels_15 : decode b_Model_quarrels 15 = .ok (.invokevirtual 280, 3) := by decide +kernel
theorem d_Model_quarrels_18 : decode b_Model_quarrels 18 = .ok (.iload_n 2, 1) := by decide +kernel
theorem d_Model_quarrels_19 : decode b_Model_quarrels 19 = .ok (.aload_n 0, 1) := by decide +kernel
theorem d_Model_quarrels_20 : decode b_Model_quarrels 20 = .ok (.iload_n 1, 1) := by decide +kernel
theorem d_Model_quarrels_21 : decode b_Model_quarrels 21 = .ok (.invokevirtual 306, 3) := by decide +kernel
theorem d_Model_quarrels_24 : decode b_Model_quarrels 24 = .ok (.ifCond .eq 7, 3) := by decide +kernel
theorem d_Model_quarrels_27 : decode b_Model_quarrels 27 = .ok (.iconst 1, 1) := by decide +kernel
theorem d_Model_quarrels_28 : decode b_Model_quarrels 28 = .ok (.goto 4, 3) := by decide +kernel
theorem d_Model_quarrels_31 : decode b_Model_quarrels 31 = .ok (.iconst 0, 1) := by decide +kernel
theorem d_Model_quarrels_32 : decode b_Model_quarrels 32 = .ok (.iadd, 1) := by decide +kernel
theorem d_Model_quarrels_33 : decode b_Model_quarrels 33 = .ok (.istore_n 2, 1) := by decide +kernel
theorem d_Model_quarrels_34 : decode b_Model_quarrels 34 = .ok (.iinc 3 1, 3) := by decide +kernel
theorem d_Model_quarrels_37 : decode b_Model_quarrels 37 = .ok (.goto (-33), 3) := by decide +kernel
theorem d_Model_quarrels_40 : decode b_Model_quarrels 40 = .ok (.iload_n 2, 1) := by decide +kernel
theorem d_Model_quarrels_41 : decode b_Model_quarrels 41 = .ok (.ireturn, 1) := by decide +kernel
theorem v_Model_quarrels : dk_Yv y_Model_quarrels b_Model_quarrels 4 (some .int) 1 := ⟨dk_in (List.mem_of_getElem? (i := 1351) (by decide +kernel)) rfl, dk_in (List.mem_of_getElem? (i := 63) (by decide +kernel)) rfl, dk_in (List.mem_of_getElem? (i := 75) (by decide +kernel)) rfl, dk_in (List.mem_of_getElem? (i := 1352) (by decide +kernel)) rfl, by decide +kernel, by decide +kernel, by decide +kernel⟩
abbrev rm_Model_quarrels : Room := { frames := 6, cells := 0, slots := 0, locals := 140 }
theorem m_Model_306 : Cond.methodLink R_Model 306 y_Model_doQuarrel ∈ dk_tb := dk_in (List.mem_of_getElem? (i := 1353) (by decide +kernel)) rfl
def B_Model_quarrels_32 (n : Nat) (k4 : Int32 → Int32 → Int32 → dk_S → Option (Int32 × dk_S)) (x1 : Int32) (x3 : Int32) (u0 : Int32) (u1 : Int32) (S : dk_S) : Option (Int32 × dk_S) :=
  k4 x1 (u0 + u1) (x3 + (1 : Int32)) S
set_option maxRecDepth 20000 in
theorem kb_Model_quarrels_32 {p : Program} {l : Launch} {e : Env} {s : State} {m : MethodId} {args : Array Value} {below : List Frame} {meth : Method} {c : Code} {g : dk_G} {A : Nat → Prop} {Q : State → Prop} {am : Nat → Nat} {n : Nat} {res : (Int32 × dk_S)} (X : dk_X p s m args meth c b_Model_quarrels 4 R_Model (some .int) g A) (hR : dk_Ri p l e rm_Model_quarrels s m args below meth c g A Q 4 b_Model_quarrels (some .int) (wM g am) res) {k4 : Int32 → Int32 → Int32 → dk_S → Option (Int32 × dk_S)} (hk4 : ∀ (x1 : Int32) (x2 : Int32) (x3 : Int32)  (S : dk_S), k4 x1 x2 x3 S = some res → dk_J p l e rm_Model_quarrels s m args below meth c g A Q 4 0 0 4 [(0, .ref (am 0)), (1, .int x1), (2, .int x2), (3, .int x3)] [] (wM g am S)) {x1 : Int32} {x3 : Int32} {u0 : Int32} {u1 : Int32} {S : dk_S}  (hF : B_Model_quarrels_32 n k4 x1 x3 u0 u1 S = some res) : dk_J p l e rm_Model_quarrels s m args below meth c g A Q 4 0 0 32 [(0, .ref (am 0)), (1, .int x1), (3, .int x3)] [.int u1, .int u0] (wM g am S) := by
  unfold B_Model_quarrels_32 at hF
  refine dk_iadd X d_Model_quarrels_32 ?_
  refine dk_istore_n (k := 2) (i := 2) (lv' := [(2, .int (u0 + u1)), (0, .ref (am 0)), (1, .int x1), (3, .int x3)]) X rfl (by decide) rfl d_Model_quarrels_33 ?_
  refine dk_iinc (i := 3) (v := (x3 + (1 : Int32))) (lv' := [(3, .int (x3 + (1 : Int32))), (2, .int (u0 + u1)), (0, .ref (am 0)), (1, .int x1)]) X 3 rfl (dk_ii _ (by decide)) (by decide) rfl d_Model_quarrels_34 ?_
  refine dk_goto (tgt := 4) X (by decide) d_Model_quarrels_37 ?_
  exact dk_sub [2, 3, 1, 0] rfl (hk4 x1 (u0 + u1) (x3 + (1 : Int32)) S hF)
def B_Model_quarrels_4b (n : Nat) (k4 : Int32 → Int32 → Int32 → dk_S → Option (Int32 × dk_S)) (x1 : Int32) (x2 : Int32) (x3 : Int32) (S : dk_S) : Option (Int32 × dk_S) :=
  if (S 5 0) < x3 then (some (x2, S)) else (dk_cv (F_Model_works n x3 (0 : Int32) S) fun S1 => dk_c (F_Model_doQuarrel n x1 S1) fun r4 S3 => if r4 = 0 then (B_Model_quarrels_32 n k4 x1 x3 x2 (0 : Int32) S3) else (B_Model_quarrels_32 n k4 x1 x3 x2 (1 : Int32) S3))
set_option maxRecDepth 20000 in
theorem kb_Model_quarrels_4b {p : Program} {l : Launch} {e : Env} {s : State} {m : MethodId} {args : Array Value} {below : List Frame} {meth : Method} {c : Code} {g : dk_G} {A : Nat → Prop} {Q : State → Prop} {am : Nat → Nat} {n : Nat} {res : (Int32 × dk_S)} (X : dk_X p s m args meth c b_Model_quarrels 4 R_Model (some .int) g A) (hR : dk_Ri p l e rm_Model_quarrels s m args below meth c g A Q 4 b_Model_quarrels (some .int) (wM g am) res) {k4 : Int32 → Int32 → Int32 → dk_S → Option (Int32 × dk_S)} (hk4 : ∀ (x1 : Int32) (x2 : Int32) (x3 : Int32)  (S : dk_S), k4 x1 x2 x3 S = some res → dk_J p l e rm_Model_quarrels s m args below meth c g A Q 4 0 0 4 [(0, .ref (am 0)), (1, .int x1), (2, .int x2), (3, .int x3)] [] (wM g am S)) {x1 : Int32} {x2 : Int32} {x3 : Int32} {S : dk_S}  (hF : B_Model_quarrels_4b n k4 x1 x2 x3 S = some res) : dk_J p l e rm_Model_quarrels s m args below meth c g A Q 4 0 0 4 [(0, .ref (am 0)), (1, .int x1), (2, .int x2), (3, .int x3)] [] (wM g am S) := by
  unfold B_Model_quarrels_4b at hF
  refine dk_iload_n (k := 3) (i := 3) X 3 rfl rfl d_Model_quarrels_4 ?_
  refine dk_aload_n (k := 0) (i := 0) X 0 rfl rfl d_Model_quarrels_5 ?_
  refine dk_get X q_Model 0 5 (by decide) (oM_Model g am S) rfl f_Model_151 d_Model_quarrels_6 ?_
  refine dk_icmp_gt (tgt := 40) X (by decide) d_Model_quarrels_9 hF (fun hF => ?_) (fun hF => ?_)
  · refine dk_iload_n (k := 2) (i := 2) X 2 rfl rfl d_Model_quarrels_40 ?_
    exact dk_reti hR hF d_Model_quarrels_41
  · refine dk_aload_n (k := 0) (i := 0) X 0 rfl rfl d_Model_quarrels_12 ?_
    refine dk_iload_n (k := 3) (i := 3) X 3 rfl rfl d_Model_quarrels_13 ?_
    refine dk_iconst (v := 0) X (by decide) d_Model_quarrels_14 ?_
    refine dk_callVv X v_Model_works [.int x3, .int (0 : Int32)] (c_Model_works l g am n x3 (0 : Int32) S) 0 (oM_Model g am S) rfl rfl m_Model_280 rfl rfl ⟨rfl, rfl, Nat.le_of_ble_eq_true rfl, Nat.le_of_ble_eq_true rfl, Nat.le_refl _, Nat.le_refl _⟩ (Nat.le_of_ble_eq_true rfl) d_Model_quarrels_15 hF (fun S1 hF => ?_)
    refine dk_iload_n (k := 2) (i := 2) X 2 rfl rfl d_Model_quarrels_18 ?_
    refine dk_aload_n (k := 0) (i := 0) X 0 rfl rfl d_Model_quarrels_19 ?_
    refine dk_iload_n (k := 1) (i := 1) X 1 rfl rfl d_Model_quarrels_20 ?_
    refine dk_callVi X v_Model_doQuarrel [.int x1] (c_Model_doQuarrel l g am n x1 S1) 0 (oM_Model g am S1) rfl rfl m_Model_306 rfl rfl ⟨rfl, rfl, Nat.le_of_ble_eq_true rfl, Nat.le_of_ble_eq_true rfl, Nat.le_refl _, Nat.le_refl _⟩ (Nat.le_of_ble_eq_true rfl) d_Model_quarrels_21 hF (fun r4 S3 hF => ?_)
    refine dk_if_eq (tgt := 31) X (by decide) d_Model_quarrels_24 hF (fun hF => ?_) (fun hF => ?_)
    · refine dk_iconst (v := 0) X (by decide) d_Model_quarrels_31 ?_
      exact dk_sub [0, 1, 3] rfl (kb_Model_quarrels_32 (n := n) X hR hk4  hF)
    · refine dk_iconst (v := 1) X (by decide) d_Model_quarrels_27 ?_
      refine dk_goto (tgt := 32) X (by decide) d_Model_quarrels_28 ?_
      exact dk_sub [0, 1, 3] rfl (kb_Model_quarrels_32 (n := n) X hR hk4  hF)
def B_Model_quarrels_4 (n : Nat)  : Nat → Int32 → Int32 → Int32 → dk_S → Option (Int32 × dk_S)
  | 0 => fun _ _ _ _ => none
  | q + 1 => fun x1 x2 x3 S => B_Model_quarrels_4b n (fun x1 x2 x3 S => B_Model_quarrels_4 n  q x1 x2 x3 S) x1 x2 x3 S
theorem kb_Model_quarrels_4 {p : Program} {l : Launch} {e : Env} {s : State} {m : MethodId} {args : Array Value} {below : List Frame} {meth : Method} {c : Code} {g : dk_G} {A : Nat → Prop} {Q : State → Prop} {am : Nat → Nat} {n : Nat} {res : (Int32 × dk_S)} (X : dk_X p s m args meth c b_Model_quarrels 4 R_Model (some .int) g A) (hR : dk_Ri p l e rm_Model_quarrels s m args below meth c g A Q 4 b_Model_quarrels (some .int) (wM g am) res)  : ∀ (q : Nat) (x1 : Int32) (x2 : Int32) (x3 : Int32)  (S : dk_S), B_Model_quarrels_4 n  q x1 x2 x3 S = some res → dk_J p l e rm_Model_quarrels s m args below meth c g A Q 4 0 0 4 [(0, .ref (am 0)), (1, .int x1), (2, .int x2), (3, .int x3)] [] (wM g am S) := by
  intro q
  induction q with
  | zero => intro x1 x2 x3  S hF; cases hF
  | succ q ih => intro x1 x2 x3  S hF; exact kb_Model_quarrels_4b (n := n) X hR ih  hF
def B_Model_quarrels_0 (n : Nat)  (x1 : Int32) (S : dk_S) : Option (Int32 × dk_S) :=
  B_Model_quarrels_4 n  n x1 (0 : Int32) (0 : Int32) S
set_option maxRecDepth 20000 in
theorem kb_Model_quarrels_0 {p : Program} {l : Launch} {e : Env} {s : State} {m : MethodId} {args : Array Value} {below : List Frame} {meth : Method} {c : Code} {g : dk_G} {A : Nat → Prop} {Q : State → Prop} {am : Nat → Nat} {n : Nat} {res : (Int32 × dk_S)} (X : dk_X p s m args meth c b_Model_quarrels 4 R_Model (some .int) g A) (hR : dk_Ri p l e rm_Model_quarrels s m args below meth c g A Q 4 b_Model_quarrels (some .int) (wM g am) res)  {x1 : Int32} {S : dk_S}  (hF : B_Model_quarrels_0 n  x1 S = some res) : dk_J p l e rm_Model_quarrels s m args below meth c g A Q 4 0 0 0 [(0, .ref (am 0)), (1, .int x1)] [] (wM g am S) := by
  unfold B_Model_quarrels_0 at hF
  refine dk_iconst (v := 0) X (by decide) d_Model_quarrels_0 ?_
  refine dk_istore_n (k := 2) (i := 2) (lv' := [(2, .int (0 : Int32)), (0, .ref (am 0)), (1, .int x1)]) X rfl (by decide) rfl d_Model_quarrels_1 ?_
  refine dk_iconst (v := 0) X (by decide) d_Model_quarrels_2 ?_
  refine dk_istore_n (k := 3) (i := 3) (lv' := [(3, .int (0 : Int32)), (2, .int (0 : Int32)), (0, .ref (am 0)), (1, .int x1)]) X rfl (by decide) rfl d_Model_quarrels_3 ?_
  exact dk_sub [2, 3, 1, 0] rfl (kb_Model_quarrels_4 (n := n) X hR  n x1 (0 : Int32) (0 : Int32) S hF)
def F_Model_quarrels (n : Nat) (x1 : Int32) (S : dk_S) : Option (Int32 × dk_S) := B_Model_quarrels_0 n x1 S
theorem c_Model_quarrels (l : Launch) (g : dk_G) (am : Nat → Nat) (n : Nat) (x1 : Int32)  (S : dk_S) : dk_Mi l g y_Model_quarrels b_Model_quarrels 4 rm_Model_quarrels (some .int) [.ref (am 0), .int x1] (wM g am) S (F_Model_quarrels n x1 S) := dk_enteri (by decide) (Nat.le_of_ble_eq_true rfl) (fun p e s m args below meth c A Q res hF X hR => (kb_Model_quarrels_0 (n := n) X hR  hF))
abbrev b_Model_quarrel : ByteArray := prog_11_method_63_code
def y_Model_quarrel : MethodName := ⟨R_Model, "quarrel", "(I)I"⟩
theorem d_Model_quarrel_0 : decode b_Model_quarrel 0 = .ok (.aload_n 0, 1) := by decide +kernel
theorem d_Model_quarrel_1 : decode b_Model_quarrel 1 = .ok (.iload_n 1, 1) := by decide +kernel
theorem d_Model_quarrel_2 : decode b_Model_quarrel 2 = .ok (.invokevirtual 158, 3) := by decide +kernel
theorem d_Model_quarrel_5 : decode b_Model_quarrel 5 = .ok (.ifCond .eq 11, 3) := by decide +kernel
theorem d_Model_quarrel_8 : decode b_Model_quarrel 8 = .ok (.aload_n 0, 1) := by decide +kernel
theorem d_Model_quarrel_9 : decode b_Model_quarrel 9 = .ok (.iload_n 1, 1) := by decide +kernel
theorem d_Model_quarrel_10 : decode b_Model_quarrel 10 = .ok (.invokevirtual 309, 3) := by decide +kernel
theorem d_Model_quarrel_13 : decode b_Model_quarrel 13 = .ok (.goto 5, 3) := by decide +kernel
theorem d_Model_quarrel_16 : decode b_Model_quarrel 16 = .ok (.bipush (-5), 2) := by decide +kernel
theorem d_Model_quarrel_18 : decode b_Model_quarrel 18 = .ok (.ireturn, 1) := by decide +kernel
theorem v_Model_quarrel : dk_Yv y_Model_quarrel b_Model_quarrel 2 (some .int) 1 := ⟨dk_in (List.mem_of_getElem? (i := 1346) (by decide +kernel)) rfl, dk_in (List.mem_of_getElem? (i := 1347) (by decide +kernel)) rfl, dk_in (List.mem_of_getElem? (i := 75) (by decide +kernel)) rfl, dk_in (List.mem_of_getElem? (i := 1348) (by decide +kernel)) rfl, by decide +kernel, by decide +kernel, by decide +kernel⟩
abbrev rm_Model_quarrel : Room := { frames := 7, cells := 0, slots := 0, locals := 163 }
theorem m_Model_309 : Cond.methodLink R_Model 309 y_Model_quarrels ∈ dk_tb := dk_in (List.mem_of_getElem? (i := 1349) (by decide +kernel)) rfl
def B_Model_quarrel_0 (n : Nat)  (x1 : Int32) (S : dk_S) : Option (Int32 × dk_S) :=
  dk_c (F_Model_isBeast n x1 S) fun r2 S1 => if r2 = 0 then (some ((-5 : Int32), S1)) else (dk_c (F_Model_quarrels n x1 S1) fun r4 S3 => some (r4, S3))
set_option maxRecDepth 20000 in
theorem kb_Model_quarrel_0 {p : Program} {l : Launch} {e : Env} {s : State} {m : MethodId} {args : Array Value} {below : List Frame} {meth : Method} {c : Code} {g : dk_G} {A : Nat → Prop} {Q : State → Prop} {am : Nat → Nat} {n : Nat} {res : (Int32 × dk_S)} (X : dk_X p s m args meth c b_Model_quarrel 2 R_Model (some .int) g A) (hR : dk_Ri p l e rm_Model_quarrel s m args below meth c g A Q 2 b_Model_quarrel (some .int) (wM g am) res)  {x1 : Int32} {S : dk_S}  (hF : B_Model_quarrel_0 n  x1 S = some res) : dk_J p l e rm_Model_quarrel s m args below meth c g A Q 2 0 0 0 [(0, .ref (am 0)), (1, .int x1)] [] (wM g am S) := by
  unfold B_Model_quarrel_0 at hF
  refine dk_aload_n (k := 0) (i := 0) X 0 rfl rfl d_Model_quarrel_0 ?_
  refine dk_iload_n (k := 1) (i := 1) X 1 rfl rfl d_Model_quarrel_1 ?_
  refine dk_callVi X v_Model_isBeast [.int x1] (c_Model_isBeast l g am n x1 S) 0 (oM_Model g am S) rfl rfl m_Model_158 rfl rfl ⟨rfl, rfl, Nat.le_of_ble_eq_true rfl, Nat.le_of_ble_eq_true rfl, Nat.le_refl _, Nat.le_refl _⟩ (Nat.le_of_ble_eq_true rfl) d_Model_quarrel_2 hF (fun r2 S1 hF => ?_)
  refine dk_if_eq (tgt := 16) X (by decide) d_Model_quarrel_5 hF (fun hF => ?_) (fun hF => ?_)
  · refine dk_bipush (v := -5) X (by decide) d_Model_quarrel_16 ?_
    exact dk_reti hR hF d_Model_quarrel_18
  · refine dk_aload_n (k := 0) (i := 0) X 0 rfl rfl d_Model_quarrel_8 ?_
    refine dk_iload_n (k := 1) (i := 1) X 1 rfl rfl d_Model_quarrel_9 ?_
    refine dk_callVi X v_Model_quarrels [.int x1] (c_Model_quarrels l g am n x1 S1) 0 (oM_Model g am S1) rfl rfl m_Model_309 rfl rfl ⟨rfl, rfl, Nat.le_of_ble_eq_true rfl, Nat.le_of_ble_eq_true rfl, Nat.le_refl _, Nat.le_refl _⟩ (Nat.le_of_ble_eq_true rfl) d_Model_quarrel_10 hF (fun r4 S3 hF => ?_)
    refine dk_goto (tgt := 18) X (by decide) d_Model_quarrel_13 ?_
    exact dk_reti hR hF d_Model_quarrel_18
def F_Model_quarrel (n : Nat) (x1 : Int32) (S : dk_S) : Option (Int32 × dk_S) := B_Model_quarrel_0 n x1 S
theorem c_Model_quarrel (l : Launch) (g : dk_G) (am : Nat → Nat) (n : Nat) (x1 : Int32)  (S : dk_S) : dk_Mi l g y_Model_quarrel b_Model_quarrel 2 rm_Model_quarrel (some .int) [.ref (am 0), .int x1] (wM g am) S (F_Model_quarrel n x1 S) := dk_enteri (by decide) (Nat.le_of_ble_eq_true rfl) (fun p e s m args below meth c A Q res hF X hR => (kb_Model_quarrel_0 (n := n) X hR  hF))
abbrev b_Model_custom : ByteArray := prog_11_method_64_code
def y_Model_custom : MethodName := ⟨R_Model, "custom", "(I)I"⟩
theorem d_Model_custom_0 : decode b_Model_custom 0 = .ok (.aload_n 0, 1) := by decide +kernel
theorem d_Model_custom_1 : decode b_Model_custom 1 = .ok (.iload_n 1, 1) := by decide +kernel
theorem d_Model_custom_2 : decode b_Model_custom 2 = .ok (.invokevirtual 158, 3) := by decide +kernel
theorem d_Model_custom_5 : decode b_Model_custom 5 = .ok (.ifCond .ne 6, 3) := by decide +kernel
theorem d_Model_custom_8 : decode b_Model_custom 8 = .ok (.bipush (-5), 2) := by decide +kernel
theorem d_Model_custom_10 : decode b_Model_custom 10 = .ok (.ireturn, 1) := by decide +kernel
theorem d_Model_custom_11 : decode b_Model_custom 11 = .ok (.aload_n 0, 1) := by decide +kernel
theorem d_Model_custom_12 : decode b_Model_custom 12 = .ok (.getfield 229, 3) := by decide +kernel
theorem d_Model_custom_15 : decode b_Model_custom 15 = .ok (.istore_n 2, 1) := by decide +kernel
theorem d_Model_custom_16 : decode b_Model_custom 16 = .ok (.iconst (-1), 1) := by decide +kernel
theorem d_Model_custom_17 : decode b_Model_custom 17 = .ok (.istore_n 3, 1) := by decide +kernel
theorem d_Model_custom_18 : decode b_Model_custom 18 = .ok (.iconst 0, 1) := by decide +kernel
theorem d_Model_custom_19 : decode b_Model_custom 19 = .ok (.istore 4, 2) := by decide +kernel
theorem d_Model_custom_21 : decode b_Model_custom 21 = .ok (.iconst 0, 1) := by decide +kernel
theorem d_Model_custom_22 : decode b_Model_custom 22 = .ok (.istore 5, 2) := by decide +kernel
theorem d_Model_custom_24 : decode b_Model_custom 24 = .ok (.iconst 0, 1) := by decide +kernel
theorem d_Model_custom_25 : decode b_Model_custom 25 = .ok (.istore 6, 2) := by decide +kernel
theorem d_Model_custom_27 : decode b_Model_custom 27 = .ok (.iload 6, 2) := by decide +kernel
theorem d_Model_custom_29 : decode b_Model_custom 29 = .ok (.aload_n 0, 1) := by decide +kernel
theorem d_Model_custom_30 : decode b_Model_custom 30 = .ok (.getfield 46, 3) := by decide +kernel
theorem d_Model_custom_33 : decode b_Model_custom 33 = .ok (.if_icmp .ge 66, 3) := by decide +kernel
theorem d_Model_custom_36 : decode b_Model_custom 36 = .ok (.aload_n 0, 1) := by decide +kernel
theorem d_Model_custom_37 : decode b_Model_custom 37 = .ok (.iload 6, 2) := by decide +kernel
theorem d_Model_custom_39 : decode b_Model_custom 39 = .ok (.putfield 229, 3) := by decide +kernel
theorem d_Model_custom_42 : decode b_Model_custom 42 = .ok (.aload_n 0, 1) := by decide +kernel
theorem d_Model_custom_43 : decode b_Model_custom 43 = .ok (.iload_n 1, 1) := by decide +kernel
theorem d_Model_custom_44 : decode b_Model_custom 44 = .ok (.invokevirtual 309, 3) := by decide +kernel
theorem d_Model_custom_47 : decode b_Model_custom 47 = .ok (.istore 7, 2) := by decide +kernel
theorem d_Model_custom_49 : decode b_Model_custom 49 = .ok (.aload_n 0, 1) := by decide +kernel
theorem d_Model_custom_50 : decode b_Model_custom 50 = .ok (.iload_n 1, 1) := by decide +kernel
theorem d_Model_custom_51 : decode b_Model_custom 51 = .ok (.invokevirtual 287, 3) := by decide +kernel
theorem d_Model_custom_54 : decode b_Model_custom 54 = .ok (.istore 8, 2) := by decide +kernel
theorem d_Model_custom_56 : decode b_Model_custom 56 = .ok (.iload_n 3, 1) := by decide +kernel
theorem d_Model_custom_57 : decode b_Model_custom 57 = .ok (.iconst (-1), 1) := by decide +kernel
theorem d_Model_custom_58 : decode b_Model_custom 58 = .ok (.if_icmp .eq 24, 3) := by decide +kernel
theorem d_Model_custom_61 : decode b_Model_custom 61 = .ok (.iload 7, 2) := by decide +kernel
theorem d_Model_custom_63 : decode b_Model_custom 63 = .ok (.iload 4, 2) := by decide +kernel
theorem d_Model_custom_65 : decode b_Model_custom 65 = .ok (.if_icmp .lt 17, 3) := by decide +kernel
theorem d_Model_custom_68 : decode b_Model_custom 68 = .ok (.iload 7, 2) := by decide +kernel
theorem d_Model_custom_70 : decode b_Model_custom 70 = .ok (.iload 4, 2) := by decide +kernel
theorem d_Model_custom_72 : decode b_Model_custom 72 = .ok (.if_icmp .ne 21, 3) := by decide +kernel
theorem d_Model_custom_75 : decode b_Model_custom 75 = .ok (.iload 8, 2) := by decide +kernel
theorem d_Model_custom_77 : decode b_Model_custom 77 = .ok (.iload 5, 2) := by decide +kernel
theorem d_Model_custom_79 : decode b_Model_custom 79 = .ok (.if_icmp .ge 14, 3) := by decide +kernel
theorem d_Model_custom_82 : decode b_Model_custom 82 = .ok (.iload 6, 2) := by decide +kernel
theorem d_Model_custom_84 : decode b_Model_custom 84 = .ok (.istore_n 3, 1) := by decide +kernel
theorem d_Model_custom_85 : decode b_Model_custom 85 = .ok (.iload 7, 2) := by decide +kernel
theorem d_Model_custom_87 : decode b_Model_custom 87 = .ok (.istore 4, 2) := by decide +kernel
theorem d_Model_custom_89 : decode b_Model_custom 89 = .ok (.iload 8, 2) := by decide +kernel
theorem d_Model_custom_91 : decode b_Model_custom 91 = .ok (.istore 5, 2) := by decide +kernel
theorem d_Model_custom_93 : decode b_Model_custom 93 = .ok (.iinc 6 1, 3) := by decide +kernel
theorem d_Model_custom_96 : decode b_Model_custom 96 = .ok (.goto (-69), 3) := by decide +kernel
theorem d_Model_custom_99 : decode b_Model_custom 99 = .ok (.aload_n 0, 1) := by decide +kernel
theorem d_Model_custom_100 : decode b_Model_custom 100 = .ok (.iload_n 2, 1) := by decide +kernel
theorem d_Model_custom_101 : decode b_Model_custom 101 = .ok (.putfield 229, 3) := by decide +kernel
theorem d_Model_custom_104 : decode b_Model_custom 104 = .ok (.iload_n 3, 1) := by decide +kernel
theorem d_Model_custom_105 : decode b_Model_custom 105 = .ok (.ireturn, 1) := by decide +kernel
theorem v_Model_custom : dk_Yv y_Model_custom b_Model_custom 9 (some .int) 1 := ⟨dk_in (List.mem_of_getElem? (i := 1358) (by decide +kernel)) rfl, dk_in (List.mem_of_getElem? (i := 1359) (by decide +kernel)) rfl, dk_in (List.mem_of_getElem? (i := 75) (by decide +kernel)) rfl, dk_in (List.mem_of_getElem? (i := 1360) (by decide +kernel)) rfl, by decide +kernel, by decide +kernel, by decide +kernel⟩
abbrev rm_Model_custom : Room := { frames := 7, cells := 0, slots := 0, locals := 163 }
def B_Model_custom_93 (n : Nat) (k27 : Int32 → Int32 → Int32 → Int32 → Int32 → Int32 → dk_S → Option (Int32 × dk_S)) (x1 : Int32) (x2 : Int32) (x3 : Int32) (x4 : Int32) (x5 : Int32) (x6 : Int32) (S : dk_S) : Option (Int32 × dk_S) :=
  k27 x1 x2 x3 x4 x5 (x6 + (1 : Int32)) S
set_option maxRecDepth 20000 in
theorem kb_Model_custom_93 {p : Program} {l : Launch} {e : Env} {s : State} {m : MethodId} {args : Array Value} {below : List Frame} {meth : Method} {c : Code} {g : dk_G} {A : Nat → Prop} {Q : State → Prop} {am : Nat → Nat} {n : Nat} {res : (Int32 × dk_S)} (X : dk_X p s m args meth c b_Model_custom 9 R_Model (some .int) g A) (hR : dk_Ri p l e rm_Model_custom s m args below meth c g A Q 9 b_Model_custom (some .int) (wM g am) res) {k27 : Int32 → Int32 → Int32 → Int32 → Int32 → Int32 → dk_S → Option (Int32 × dk_S)} (hk27 : ∀ (x1 : Int32) (x2 : Int32) (x3 : Int32) (x4 : Int32) (x5 : Int32) (x6 : Int32)  (S : dk_S), k27 x1 x2 x3 x4 x5 x6 S = some res → dk_J p l e rm_Model_custom s m args below meth c g A Q 9 0 0 27 [(0, .ref (am 0)), (1, .int x1), (2, .int x2), (3, .int x3), (4, .int x4), (5, .int x5), (6, .int x6)] [] (wM g am S)) {x1 : Int32} {x2 : Int32} {x3 : Int32} {x4 : Int32} {x5 : Int32} {x6 : Int32} {S : dk_S}  (hF : B_Model_custom_93 n k27 x1 x2 x3 x4 x5 x6 S = some res) : dk_J p l e rm_Model_custom s m args below meth c g A Q 9 0 0 93 [(0, .ref (am 0)), (1, .int x1), (2, .int x2), (3, .int x3), (4, .int x4), (5, .int x5), (6, .int x6)] [] (wM g am S) := by
  unfold B_Model_custom_93 at hF
  refine dk_iinc (i := 6) (v := (x6 + (1 : Int32))) (lv' := [(6, .int (x6 + (1 : Int32))), (0, .ref (am 0)), (1, .int x1), (2, .int x2), (3, .int x3), (4, .int x4), (5, .int x5)]) X 6 rfl (dk_ii _ (by decide)) (by decide) rfl d_Model_custom_93 ?_
  refine dk_goto (tgt := 27) X (by decide) d_Model_custom_96 ?_
  exact dk_sub [1, 2, 3, 4, 5, 6, 0] rfl (hk27 x1 x2 x3 x4 x5 (x6 + (1 : Int32)) S hF)
def B_Model_custom_82 (n : Nat) (k27 : Int32 → Int32 → Int32 → Int32 → Int32 → Int32 → dk_S → Option (Int32 × dk_S)) (x1 : Int32) (x2 : Int32) (x6 : Int32) (x7 : Int32) (x8 : Int32) (S : dk_S) : Option (Int32 × dk_S) :=
  B_Model_custom_93 n k27 x1 x2 x6 x7 x8 x6 S
set_option maxRecDepth 20000 in
theorem kb_Model_custom_82 {p : Program} {l : Launch} {e : Env} {s : State} {m : MethodId} {args : Array Value} {below : List Frame} {meth : Method} {c : Code} {g : dk_G} {A : Nat → Prop} {Q : State → Prop} {am : Nat → Nat} {n : Nat} {res : (Int32 × dk_S)} (X : dk_X p s m args meth c b_Model_custom 9 R_Model (some .int) g A) (hR : dk_Ri p l e rm_Model_custom s m args below meth c g A Q 9 b_Model_custom (some .int) (wM g am) res) {k27 : Int32 → Int32 → Int32 → Int32 → Int32 → Int32 → dk_S → Option (Int32 × dk_S)} (hk27 : ∀ (x1 : Int32) (x2 : Int32) (x3 : Int32) (x4 : Int32) (x5 : Int32) (x6 : Int32)  (S : dk_S), k27 x1 x2 x3 x4 x5 x6 S = some res → dk_J p l e rm_Model_custom s m args below meth c g A Q 9 0 0 27 [(0, .ref (am 0)), (1, .int x1), (2, .int x2), (3, .int x3), (4, .int x4), (5, .int x5), (6, .int x6)] [] (wM g am S)) {x1 : Int32} {x2 : Int32} {x6 : Int32} {x7 : Int32} {x8 : Int32} {S : dk_S}  (hF : B_Model_custom_82 n k27 x1 x2 x6 x7 x8 S = some res) : dk_J p l e rm_Model_custom s m args below meth c g A Q 9 0 0 82 [(0, .ref (am 0)), (1, .int x1), (2, .int x2), (6, .int x6), (7, .int x7), (8, .int x8)] [] (wM g am S) := by
  unfold B_Model_custom_82 at hF
  refine dk_iload (i := 6) X 3 rfl d_Model_custom_82 ?_
  refine dk_istore_n (k := 3) (i := 3) (lv' := [(3, .int x6), (0, .ref (am 0)), (1, .int x1), (2, .int x2), (6, .int x6), (7, .int x7), (8, .int x8)]) X rfl (by decide) rfl d_Model_custom_84 ?_
  refine dk_iload (i := 7) X 5 rfl d_Model_custom_85 ?_
  refine dk_istore (i := 4) (lv' := [(4, .int x7), (3, .int x6), (0, .ref (am 0)), (1, .int x1), (2, .int x2), (6, .int x6), (7, .int x7), (8, .int x8)]) X (by decide) rfl d_Model_custom_87 ?_
  refine dk_iload (i := 8) X 7 rfl d_Model_custom_89 ?_
  refine dk_istore (i := 5) (lv' := [(5, .int x8), (4, .int x7), (3, .int x6), (0, .ref (am 0)), (1, .int x1), (2, .int x2), (6, .int x6), (7, .int x7), (8, .int x8)]) X (by decide) rfl d_Model_custom_91 ?_
  exact dk_sub [3, 4, 5, 2, 1, 0, 6] rfl (kb_Model_custom_93 (n := n) X hR hk27  hF)
def B_Model_custom_27b (n : Nat) (k27 : Int32 → Int32 → Int32 → Int32 → Int32 → Int32 → dk_S → Option (Int32 × dk_S)) (x1 : Int32) (x2 : Int32) (x3 : Int32) (x4 : Int32) (x5 : Int32) (x6 : Int32) (S : dk_S) : Option (Int32 × dk_S) :=
  if (S 16 0) ≤ x6 then (dk_p S 17 x2 fun S1 => some (x3, S1)) else (dk_p S 17 x6 fun S2 => dk_c (F_Model_quarrels n x1 S2) fun r4 S3 => dk_c (F_Model_nobodyOf n x1 S3) fun r6 S5 => if x3 = (-1 : Int32) then (B_Model_custom_82 n k27 x1 x2 x6 r4 r6 S5) else (if r4 < x4 then (B_Model_custom_82 n k27 x1 x2 x6 r4 r6 S5) else (if ¬ r4 = x4 then (B_Model_custom_93 n k27 x1 x2 x3 x4 x5 x6 S5) else (if x5 ≤ r6 then (B_Model_custom_93 n k27 x1 x2 x3 x4 x5 x6 S5) else (B_Model_custom_82 n k27 x1 x2 x6 r4 r6 S5)))))
set_option maxRecDepth 20000 in
theorem kb_Model_custom_27b {p : Program} {l : Launch} {e : Env} {s : State} {m : MethodId} {args : Array Value} {below : List Frame} {meth : Method} {c : Code} {g : dk_G} {A : Nat → Prop} {Q : State → Prop} {am : Nat → Nat} {n : Nat} {res : (Int32 × dk_S)} (X : dk_X p s m args meth c b_Model_custom 9 R_Model (some .int) g A) (hR : dk_Ri p l e rm_Model_custom s m args below meth c g A Q 9 b_Model_custom (some .int) (wM g am) res) {k27 : Int32 → Int32 → Int32 → Int32 → Int32 → Int32 → dk_S → Option (Int32 × dk_S)} (hk27 : ∀ (x1 : Int32) (x2 : Int32) (x3 : Int32) (x4 : Int32) (x5 : Int32) (x6 : Int32)  (S : dk_S), k27 x1 x2 x3 x4 x5 x6 S = some res → dk_J p l e rm_Model_custom s m args below meth c g A Q 9 0 0 27 [(0, .ref (am 0)), (1, .int x1), (2, .int x2), (3, .int x3), (4, .int x4), (5, .int x5), (6, .int x6)] [] (wM g am S)) {x1 : Int32} {x2 : Int32} {x3 : Int32} {x4 : Int32} {x5 : Int32} {x6 : Int32} {S : dk_S}  (hF : B_Model_custom_27b n k27 x1 x2 x3 x4 x5 x6 S = some res) : dk_J p l e rm_Model_custom s m args below meth c g A Q 9 0 0 27 [(0, .ref (am 0)), (1, .int x1), (2, .int x2), (3, .int x3), (4, .int x4), (5, .int x5), (6, .int x6)] [] (wM g am S) := by
  unfold B_Model_custom_27b at hF
  refine dk_iload (i := 6) X 6 rfl d_Model_custom_27 ?_
  refine dk_aload_n (k := 0) (i := 0) X 0 rfl rfl d_Model_custom_29 ?_
  refine dk_get X q_Model 0 16 (by decide) (oM_Model g am S) rfl f_Model_46 d_Model_custom_30 ?_
  refine dk_icmp_ge (tgt := 99) X (by decide) d_Model_custom_33 hF (fun hF => ?_) (fun hF => ?_)
  · refine dk_aload_n (k := 0) (i := 0) X 0 rfl rfl d_Model_custom_99 ?_
    refine dk_iload_n (k := 2) (i := 2) X 2 rfl rfl d_Model_custom_100 ?_
    refine dk_puti X q_Model 0 17 (by decide) (oM_Model g am S) f_Model_229 rfl rfl (Nat.le_of_ble_eq_true rfl) (sM_Model_rule g am S _) d_Model_custom_101 hF (fun S1 hF => ?_)
    refine dk_iload_n (k := 3) (i := 3) X 3 rfl rfl d_Model_custom_104 ?_
    exact dk_reti hR hF d_Model_custom_105
  · refine dk_aload_n (k := 0) (i := 0) X 0 rfl rfl d_Model_custom_36 ?_
    refine dk_iload (i := 6) X 6 rfl d_Model_custom_37 ?_
    refine dk_puti X q_Model 0 17 (by decide) (oM_Model g am S) f_Model_229 rfl rfl (Nat.le_of_ble_eq_true rfl) (sM_Model_rule g am S _) d_Model_custom_39 hF (fun S2 hF => ?_)
    refine dk_aload_n (k := 0) (i := 0) X 0 rfl rfl d_Model_custom_42 ?_
    refine dk_iload_n (k := 1) (i := 1) X 1 rfl rfl d_Model_custom_43 ?_
    refine dk_callVi X v_Model_quarrels [.int x1] (c_Model_quarrels l g am n x1 S2) 0 (oM_Model g am S2) rfl rfl m_Model_309 rfl rfl ⟨rfl, rfl, Nat.le_of_ble_eq_true rfl, Nat.le_of_ble_eq_true rfl, Nat.le_refl _, Nat.le_refl _⟩ (Nat.le_of_ble_eq_true rfl) d_Model_custom_44 hF (fun r4 S3 hF => ?_)
    refine dk_istore (i := 7) (lv' := [(7, .int r4), (0, .ref (am 0)), (1, .int x1), (2, .int x2), (3, .int x3), (4, .int x4), (5, .int x5), (6, .int x6)]) X (by decide) rfl d_Model_custom_47 ?_
    refine dk_aload_n (k := 0) (i := 0) X 1 rfl rfl d_Model_custom_49 ?_
    refine dk_iload_n (k := 1) (i := 1) X 2 rfl rfl d_Model_custom_50 ?_
    refine dk_callVi X v_Model_nobodyOf [.int x1] (c_Model_nobodyOf l g am n x1 S3) 0 (oM_Model g am S3) rfl rfl m_Model_287 rfl rfl ⟨rfl, rfl, Nat.le_of_ble_eq_true rfl, Nat.le_of_ble_eq_true rfl, Nat.le_refl _, Nat.le_refl _⟩ (Nat.le_of_ble_eq_true rfl) d_Model_custom_51 hF (fun r6 S5 hF => ?_)
    refine dk_istore (i := 8) (lv' := [(8, .int r6), (7, .int r4), (0, .ref (am 0)), (1, .int x1), (2, .int x2), (3, .int x3), (4, .int x4), (5, .int x5), (6, .int x6)]) X (by decide) rfl d_Model_custom_54 ?_
    refine dk_iload_n (k := 3) (i := 3) X 5 rfl rfl d_Model_custom_56 ?_
    refine dk_iconst (v := -1) X (by decide) d_Model_custom_57 ?_
    refine dk_icmp_eq (tgt := 82) X (by decide) d_Model_custom_58 hF (fun hF => ?_) (fun hF => ?_)
    · exact dk_sub [2, 3, 4, 8, 1, 0] rfl (kb_Model_custom_82 (n := n) X hR hk27  hF)
    · refine dk_iload (i := 7) X 1 rfl d_Model_custom_61 ?_
      refine dk_iload (i := 4) X 6 rfl d_Model_custom_63 ?_
      refine dk_icmp_lt (tgt := 82) X (by decide) d_Model_custom_65 hF (fun hF => ?_) (fun hF => ?_)
      · exact dk_sub [2, 3, 4, 8, 1, 0] rfl (kb_Model_custom_82 (n := n) X hR hk27  hF)
      · refine dk_iload (i := 7) X 1 rfl d_Model_custom_68 ?_
        refine dk_iload (i := 4) X 6 rfl d_Model_custom_70 ?_
        refine dk_icmp_ne (tgt := 93) X (by decide) d_Model_custom_72 hF (fun hF => ?_) (fun hF => ?_)
        · exact dk_sub [2, 3, 4, 5, 6, 7, 8] rfl (kb_Model_custom_93 (n := n) X hR hk27  hF)
        · refine dk_iload (i := 8) X 0 rfl d_Model_custom_75 ?_
          refine dk_iload (i := 5) X 7 rfl d_Model_custom_77 ?_
          refine dk_icmp_ge (tgt := 93) X (by decide) d_Model_custom_79 hF (fun hF => ?_) (fun hF => ?_)
          · exact dk_sub [2, 3, 4, 5, 6, 7, 8] rfl (kb_Model_custom_93 (n := n) X hR hk27  hF)
          · exact dk_sub [2, 3, 4, 8, 1, 0] rfl (kb_Model_custom_82 (n := n) X hR hk27  hF)
def B_Model_custom_27 (n : Nat)  : Nat → Int32 → Int32 → Int32 → Int32 → Int32 → Int32 → dk_S → Option (Int32 × dk_S)
  | 0 => fun _ _ _ _ _ _ _ => none
  | q + 1 => fun x1 x2 x3 x4 x5 x6 S => B_Model_custom_27b n (fun x1 x2 x3 x4 x5 x6 S => B_Model_custom_27 n  q x1 x2 x3 x4 x5 x6 S) x1 x2 x3 x4 x5 x6 S
theorem kb_Model_custom_27 {p : Program} {l : Launch} {e : Env} {s : State} {m : MethodId} {args : Array Value} {below : List Frame} {meth : Method} {c : Code} {g : dk_G} {A : Nat → Prop} {Q : State → Prop} {am : Nat → Nat} {n : Nat} {res : (Int32 × dk_S)} (X : dk_X p s m args meth c b_Model_custom 9 R_Model (some .int) g A) (hR : dk_Ri p l e rm_Model_custom s m args below meth c g A Q 9 b_Model_custom (some .int) (wM g am) res)  : ∀ (q : Nat) (x1 : Int32) (x2 : Int32) (x3 : Int32) (x4 : Int32) (x5 : Int32) (x6 : Int32)  (S : dk_S), B_Model_custom_27 n  q x1 x2 x3 x4 x5 x6 S = some res → dk_J p l e rm_Model_custom s m args below meth c g A Q 9 0 0 27 [(0, .ref (am 0)), (1, .int x1), (2, .int x2), (3, .int x3), (4, .int x4), (5, .int x5), (6, .int x6)] [] (wM g am S) := by
  intro q
  induction q with
  | zero => intro x1 x2 x3 x4 x5 x6  S hF; cases hF
  | succ q ih => intro x1 x2 x3 x4 x5 x6  S hF; exact kb_Model_custom_27b (n := n) X hR ih  hF
def B_Model_custom_0 (n : Nat)  (x1 : Int32) (S : dk_S) : Option (Int32 × dk_S) :=
  dk_c (F_Model_isBeast n x1 S) fun r8 S7 => if ¬ r8 = 0 then (B_Model_custom_27 n  n x1 (S7 17 0) (-1 : Int32) (0 : Int32) (0 : Int32) (0 : Int32) S7) else (some ((-5 : Int32), S7))
set_option maxRecDepth 20000 in
theorem kb_Model_custom_0 {p : Program} {l : Launch} {e : Env} {s : State} {m : MethodId} {args : Array Value} {below : List Frame} {meth : Method} {c : Code} {g : dk_G} {A : Nat → Prop} {Q : State → Prop} {am : Nat → Nat} {n : Nat} {res : (Int32 × dk_S)} (X : dk_X p s m args meth c b_Model_custom 9 R_Model (some .int) g A) (hR : dk_Ri p l e rm_Model_custom s m args below meth c g A Q 9 b_Model_custom (some .int) (wM g am) res)  {x1 : Int32} {S : dk_S}  (hF : B_Model_custom_0 n  x1 S = some res) : dk_J p l e rm_Model_custom s m args below meth c g A Q 9 0 0 0 [(0, .ref (am 0)), (1, .int x1)] [] (wM g am S) := by
  unfold B_Model_custom_0 at hF
  refine dk_aload_n (k := 0) (i := 0) X 0 rfl rfl d_Model_custom_0 ?_
  refine dk_iload_n (k := 1) (i := 1) X 1 rfl rfl d_Model_custom_1 ?_
  refine dk_callVi X v_Model_isBeast [.int x1] (c_Model_isBeast l g am n x1 S) 0 (oM_Model g am S) rfl rfl m_Model_158 rfl rfl ⟨rfl, rfl, Nat.le_of_ble_eq_true rfl, Nat.le_of_ble_eq_true rfl, Nat.le_refl _, Nat.le_refl _⟩ (Nat.le_of_ble_eq_true rfl) d_Model_custom_2 hF (fun r8 S7 hF => ?_)
  refine dk_if_ne (tgt := 11) X (by decide) d_Model_custom_5 hF (fun hF => ?_) (fun hF => ?_)
  · refine dk_aload_n (k := 0) (i := 0) X 0 rfl rfl d_Model_custom_11 ?_
    refine dk_get X q_Model 0 17 (by decide) (oM_Model g am S7) rfl f_Model_229 d_Model_custom_12 ?_
    refine dk_istore_n (k := 2) (i := 2) (lv' := [(2, .int (S7 17 0)), (0, .ref (am 0)), (1, .int x1)]) X rfl (by decide) rfl d_Model_custom_15 ?_
    refine dk_iconst (v := -1) X (by decide) d_Model_custom_16 ?_
    refine dk_istore_n (k := 3) (i := 3) (lv' := [(3, .int (-1 : Int32)), (2, .int (S7 17 0)), (0, .ref (am 0)), (1, .int x1)]) X rfl (by decide) rfl d_Model_custom_17 ?_
    refine dk_iconst (v := 0) X (by decide) d_Model_custom_18 ?_
    refine dk_istore (i := 4) (lv' := [(4, .int (0 : Int32)), (3, .int (-1 : Int32)), (2, .int (S7 17 0)), (0, .ref (am 0)), (1, .int x1)]) X (by decide) rfl d_Model_custom_19 ?_
    refine dk_iconst (v := 0) X (by decide) d_Model_custom_21 ?_
    refine dk_istore (i := 5) (lv' := [(5, .int (0 : Int32)), (4, .int (0 : Int32)), (3, .int (-1 : Int32)), (2, .int (S7 17 0)), (0, .ref (am 0)), (1, .int x1)]) X (by decide) rfl d_Model_custom_22 ?_
    refine dk_iconst (v := 0) X (by decide) d_Model_custom_24 ?_
    refine dk_istore (i := 6) (lv' := [(6, .int (0 : Int32)), (5, .int (0 : Int32)), (4, .int (0 : Int32)), (3, .int (-1 : Int32)), (2, .int (S7 17 0)), (0, .ref (am 0)), (1, .int x1)]) X (by decide) rfl d_Model_custom_25 ?_
    exact dk_sub [5, 6, 4, 3, 2, 1, 0] rfl (kb_Model_custom_27 (n := n) X hR  n x1 (S7 17 0) (-1 : Int32) (0 : Int32) (0 : Int32) (0 : Int32) S7 hF)
  · refine dk_bipush (v := -5) X (by decide) d_Model_custom_8 ?_
    exact dk_reti hR hF d_Model_custom_10
def F_Model_custom (n : Nat) (x1 : Int32) (S : dk_S) : Option (Int32 × dk_S) := B_Model_custom_0 n x1 S
theorem c_Model_custom (l : Launch) (g : dk_G) (am : Nat → Nat) (n : Nat) (x1 : Int32)  (S : dk_S) : dk_Mi l g y_Model_custom b_Model_custom 9 rm_Model_custom (some .int) [.ref (am 0), .int x1] (wM g am) S (F_Model_custom n x1 S) := dk_enteri (by decide) (Nat.le_of_ble_eq_true rfl) (fun p e s m args below meth c A Q res hF X hR => (kb_Model_custom_0 (n := n) X hR  hF))
abbrev b_Model_count : ByteArray := prog_11_method_65_code
def y_Model_count : MethodName := ⟨R_Model, "count", "(I)I"⟩
theorem d_Model_count_0 : decode b_Model_count 0 = .ok (.iload_n 1, 1) := by decide +kernel
theorem d_Model_count_1 : decode b_Model_count 1 = .ok (.tableswitch 78 0 6 #[43, 48, 53, 58, 63, 68, 73], 43) := by decide +kernel
theorem d_Model_count_44 : decode b_Model_count 44 = .ok (.aload_n 0, 1) := by decide +kernel
theorem d_Model_count_45 : decode b_Model_count 45 = .ok (.getfield 141, 3) := by decide +kernel
theorem d_Model_count_48 : decode b_Model_count 48 = .ok (.ireturn, 1) := by decide +kernel
theorem d_Model_count_49 : decode b_Model_count 49 = .ok (.aload_n 0, 1) := by decide +kernel
theorem d_Model_count_50 : decode b_Model_count 50 = .ok (.getfield 148, 3) := by decide +kernel
theorem d_Model_count_53 : decode b_Model_count 53 = .ok (.ireturn, 1) := by decide +kernel
theorem d_Model_count_54 : decode b_Model_count 54 = .ok (.aload_n 0, 1) := by decide +kernel
theorem d_Model_count_55 : decode b_Model_count 55 = .ok (.getfield 151, 3) := by decide +kernel
theorem d_Model_count_58 : decode b_Model_count 58 = .ok (.ireturn, 1) := by decide +kernel
theorem d_Model_count_59 : decode b_Model_count 59 = .ok (.aload_n 0, 1) := by decide +kernel
theorem d_Model_count_60 : decode b_Model_count 60 = .ok (.invokevirtual 164, 3) := by decide +kernel
theorem d_Model_count_63 : decode b_Model_count 63 = .ok (.ireturn, 1) := by decide +kernel
theorem d_Model_count_64 : decode b_Model_count 64 = .ok (.aload_n 0, 1) := by decide +kernel
theorem d_Model_count_65 : decode b_Model_count 65 = .ok (.getfield 46, 3) := by decide +kernel
theorem d_Model_count_68 : decode b_Model_count 68 = .ok (.ireturn, 1) := by decide +kernel
theorem d_Model_count_69 : decode b_Model_count 69 = .ok (.aload_n 0, 1) := by decide +kernel
theorem d_Model_count_70 : decode b_Model_count 70 = .ok (.getfield 229, 3) := by decide +kernel
theorem d_Model_count_73 : decode b_Model_count 73 = .ok (.ireturn, 1) := by decide +kernel
theorem d_Model_count_74 : decode b_Model_count 74 = .ok (.aload_n 0, 1) := by decide +kernel
theorem d_Model_count_75 : decode b_Model_count 75 = .ok (.getfield 168, 3) := by decide +kernel
theorem d_Model_count_78 : decode b_Model_count 78 = .ok (.ireturn, 1) := by decide +kernel
theorem d_Model_count_79 : decode b_Model_count 79 = .ok (.bipush (-2), 2) := by decide +kernel
theorem d_Model_count_81 : decode b_Model_count 81 = .ok (.ireturn, 1) := by decide +kernel
theorem v_Model_count : dk_Yv y_Model_count b_Model_count 2 (some .int) 1 := ⟨dk_in (List.mem_of_getElem? (i := 1362) (by decide +kernel)) rfl, dk_in (List.mem_of_getElem? (i := 1363) (by decide +kernel)) rfl, dk_in (List.mem_of_getElem? (i := 75) (by decide +kernel)) rfl, dk_in (List.mem_of_getElem? (i := 1364) (by decide +kernel)) rfl, by decide +kernel, by decide +kernel, by decide +kernel⟩
abbrev rm_Model_count : Room := { frames := 1, cells := 0, slots := 0, locals := 22 }
def B_Model_count_0 (n : Nat)  (x1 : Int32) (S : dk_S) : Option (Int32 × dk_S) :=
  if x1 = (0 : Int32) then (some ((S 0 0), S)) else (if x1 = (1 : Int32) then (some ((S 2 0), S)) else (if x1 = (2 : Int32) then (some ((S 5 0), S)) else (if x1 = (3 : Int32) then (dk_c (F_Model_unsureMany n S) fun r2 S1 => some (r2, S1)) else (if x1 = (4 : Int32) then (some ((S 16 0), S)) else (if x1 = (5 : Int32) then (some ((S 17 0), S)) else (if x1 = (6 : Int32) then (some ((S 13 0), S)) else (some ((-2 : Int32), S))))))))
set_option maxRecDepth 20000 in
theorem kb_Model_count_0 {p : Program} {l : Launch} {e : Env} {s : State} {m : MethodId} {args : Array Value} {below : List Frame} {meth : Method} {c : Code} {g : dk_G} {A : Nat → Prop} {Q : State → Prop} {am : Nat → Nat} {n : Nat} {res : (Int32 × dk_S)} (X : dk_X p s m args meth c b_Model_count 2 R_Model (some .int) g A) (hR : dk_Ri p l e rm_Model_count s m args below meth c g A Q 2 b_Model_count (some .int) (wM g am) res)  {x1 : Int32} {S : dk_S}  (hF : B_Model_count_0 n  x1 S = some res) : dk_J p l e rm_Model_count s m args below meth c g A Q 2 0 0 0 [(0, .ref (am 0)), (1, .int x1)] [] (wM g am S) := by
  unfold B_Model_count_0 at hF
  refine dk_iload_n (k := 1) (i := 1) X 1 rfl rfl d_Model_count_0 ?_
  refine dk_if hF (fun hc0 hF => ?_) (fun hc0 hF => ?_)
  · refine dk_tsIn (v := 0) (tgt := 44) X d_Model_count_1 (by rw [hc0]; decide) (by decide) (by decide) rfl (by decide) ?_
    refine dk_aload_n (k := 0) (i := 0) X 0 rfl rfl d_Model_count_44 ?_
    refine dk_get X q_Model 0 0 (by decide) (oM_Model g am S) rfl f_Model_141 d_Model_count_45 ?_
    exact dk_reti hR hF d_Model_count_48
  · refine dk_if hF (fun hc1 hF => ?_) (fun hc1 hF => ?_)
    · refine dk_tsIn (v := 1) (tgt := 49) X d_Model_count_1 (by rw [hc1]; decide) (by decide) (by decide) rfl (by decide) ?_
      refine dk_aload_n (k := 0) (i := 0) X 0 rfl rfl d_Model_count_49 ?_
      refine dk_get X q_Model 0 2 (by decide) (oM_Model g am S) rfl f_Model_148 d_Model_count_50 ?_
      exact dk_reti hR hF d_Model_count_53
    · refine dk_if hF (fun hc2 hF => ?_) (fun hc2 hF => ?_)
      · refine dk_tsIn (v := 2) (tgt := 54) X d_Model_count_1 (by rw [hc2]; decide) (by decide) (by decide) rfl (by decide) ?_
        refine dk_aload_n (k := 0) (i := 0) X 0 rfl rfl d_Model_count_54 ?_
        refine dk_get X q_Model 0 5 (by decide) (oM_Model g am S) rfl f_Model_151 d_Model_count_55 ?_
        exact dk_reti hR hF d_Model_count_58
      · refine dk_if hF (fun hc3 hF => ?_) (fun hc3 hF => ?_)
        · refine dk_tsIn (v := 3) (tgt := 59) X d_Model_count_1 (by rw [hc3]; decide) (by decide) (by decide) rfl (by decide) ?_
          refine dk_aload_n (k := 0) (i := 0) X 0 rfl rfl d_Model_count_59 ?_
          refine dk_callVi X v_Model_unsureMany [] (c_Model_unsureMany l g am n S) 0 (oM_Model g am S) rfl rfl m_Model_164 rfl rfl ⟨rfl, rfl, Nat.le_of_ble_eq_true rfl, Nat.le_of_ble_eq_true rfl, Nat.le_refl _, Nat.le_refl _⟩ (Nat.le_of_ble_eq_true rfl) d_Model_count_60 hF (fun r2 S1 hF => ?_)
          exact dk_reti hR hF d_Model_count_63
        · refine dk_if hF (fun hc4 hF => ?_) (fun hc4 hF => ?_)
          · refine dk_tsIn (v := 4) (tgt := 64) X d_Model_count_1 (by rw [hc4]; decide) (by decide) (by decide) rfl (by decide) ?_
            refine dk_aload_n (k := 0) (i := 0) X 0 rfl rfl d_Model_count_64 ?_
            refine dk_get X q_Model 0 16 (by decide) (oM_Model g am S) rfl f_Model_46 d_Model_count_65 ?_
            exact dk_reti hR hF d_Model_count_68
          · refine dk_if hF (fun hc5 hF => ?_) (fun hc5 hF => ?_)
            · refine dk_tsIn (v := 5) (tgt := 69) X d_Model_count_1 (by rw [hc5]; decide) (by decide) (by decide) rfl (by decide) ?_
              refine dk_aload_n (k := 0) (i := 0) X 0 rfl rfl d_Model_count_69 ?_
              refine dk_get X q_Model 0 17 (by decide) (oM_Model g am S) rfl f_Model_229 d_Model_count_70 ?_
              exact dk_reti hR hF d_Model_count_73
            · refine dk_if hF (fun hc6 hF => ?_) (fun hc6 hF => ?_)
              · refine dk_tsIn (v := 6) (tgt := 74) X d_Model_count_1 (by rw [hc6]; decide) (by decide) (by decide) rfl (by decide) ?_
                refine dk_aload_n (k := 0) (i := 0) X 0 rfl rfl d_Model_count_74 ?_
                refine dk_get X q_Model 0 13 (by decide) (oM_Model g am S) rfl f_Model_168 d_Model_count_75 ?_
                exact dk_reti hR hF d_Model_count_78
              · refine dk_tsOut (tgt := 79) X d_Model_count_1 (by have e0 := lv_neT hc0 (a := 0) (by decide); have e1 := lv_neT hc1 (a := 1) (by decide); have e2 := lv_neT hc2 (a := 2) (by decide); have e3 := lv_neT hc3 (a := 3) (by decide); have e4 := lv_neT hc4 (a := 4) (by decide); have e5 := lv_neT hc5 (a := 5) (by decide); have e6 := lv_neT hc6 (a := 6) (by decide); omega) (by decide) ?_
                refine dk_bipush (v := -2) X (by decide) d_Model_count_79 ?_
                exact dk_reti hR hF d_Model_count_81
def F_Model_count (n : Nat) (x1 : Int32) (S : dk_S) : Option (Int32 × dk_S) := B_Model_count_0 n x1 S
theorem c_Model_count (l : Launch) (g : dk_G) (am : Nat → Nat) (n : Nat) (x1 : Int32)  (S : dk_S) : dk_Mi l g y_Model_count b_Model_count 2 rm_Model_count (some .int) [.ref (am 0), .int x1] (wM g am) S (F_Model_count n x1 S) := dk_enteri (by decide) (Nat.le_of_ble_eq_true rfl) (fun p e s m args below meth c A Q res hF X hR => (kb_Model_count_0 (n := n) X hR  hF))
abbrev b_Model_image : ByteArray := prog_11_method_66_code
def y_Model_image : MethodName := ⟨R_Model, "image", "()I"⟩
theorem d_Model_image_0 : decode b_Model_image 0 = .ok (.aload_n 0, 1) := by decide +kernel
theorem d_Model_image_1 : decode b_Model_image 1 = .ok (.iconst 1, 1) := by decide +kernel
theorem d_Model_image_2 : decode b_Model_image 2 = .ok (.putfield 312, 3) := by decide +kernel
theorem d_Model_image_5 : decode b_Model_image 5 = .ok (.aload_n 0, 1) := by decide +kernel
theorem d_Model_image_6 : decode b_Model_image 6 = .ok (.aload_n 0, 1) := by decide +kernel
theorem d_Model_image_7 : decode b_Model_image 7 = .ok (.getfield 141, 3) := by decide +kernel
theorem d_Model_image_10 : decode b_Model_image 10 = .ok (.putfield 316, 3) := by decide +kernel
theorem d_Model_image_13 : decode b_Model_image 13 = .ok (.aload_n 0, 1) := by decide +kernel
theorem d_Model_image_14 : decode b_Model_image 14 = .ok (.aload_n 0, 1) := by decide +kernel
theorem d_Model_image_15 : decode b_Model_image 15 = .ok (.getfield 151, 3) := by decide +kernel
theorem d_Model_image_18 : decode b_Model_image 18 = .ok (.putfield 319, 3) := by decide +kernel
theorem d_Model_image_21 : decode b_Model_image 21 = .ok (.aload_n 0, 1) := by decide +kernel
theorem d_Model_image_22 : decode b_Model_image 22 = .ok (.aload_n 0, 1) := by decide +kernel
theorem d_Model_image_23 : decode b_Model_image 23 = .ok (.getfield 229, 3) := by decide +kernel
theorem d_Model_image_26 : decode b_Model_image 26 = .ok (.putfield 322, 3) := by decide +kernel
theorem d_Model_image_29 : decode b_Model_image 29 = .ok (.iconst 0, 1) := by decide +kernel
theorem d_Model_image_30 : decode b_Model_image 30 = .ok (.istore_n 1, 1) := by decide +kernel
theorem d_Model_image_31 : decode b_Model_image 31 = .ok (.iload_n 1, 1) := by decide +kernel
theorem d_Model_image_32 : decode b_Model_image 32 = .ok (.bipush 8, 2) := by decide +kernel
theorem d_Model_image_34 : decode b_Model_image 34 = .ok (.if_icmp .ge 21, 3) := by decide +kernel
theorem d_Model_image_37 : decode b_Model_image 37 = .ok (.aload_n 0, 1) := by decide +kernel
theorem d_Model_image_38 : decode b_Model_image 38 = .ok (.getfield 84, 3) := by decide +kernel
theorem d_Model_image_41 : decode b_Model_image 41 = .ok (.iload_n 1, 1) := by decide +kernel
theorem d_Model_image_42 : decode b_Model_image 42 = .ok (.aload_n 0, 1) := by decide +kernel
theorem d_Model_image_43 : decode b_Model_image 43 = .ok (.getfield 7, 3) := by decide +kernel
theorem d_Model_image_46 : decode b_Model_image 46 = .ok (.iload_n 1, 1) := by decide +kernel
theorem d_Model_image_47 : decode b_Model_image 47 = .ok (.iaload, 1) := by decide +kernel
theorem d_Model_image_48 : decode b_Model_image 48 = .ok (.iastore, 1) := by decide +kernel
theorem d_Model_image_49 : decode b_Model_image 49 = .ok (.iinc 1 1, 3) := by decide +kernel
theorem d_Model_image_52 : decode b_Model_image 52 = .ok (.goto (-21), 3) := by decide +kernel
theorem d_Model_image_55 : decode b_Model_image 55 = .ok (.iconst 0, 1) := by decide +kernel
theorem d_Model_image_56 : decode b_Model_image 56 = .ok (.istore_n 1, 1) := by decide +kernel
theorem d_Model_image_57 : decode b_Model_image 57 = .ok (.iload_n 1, 1) := by decide +kernel
theorem d_Model_image_58 : decode b_Model_image 58 = .ok (.bipush 32, 2) := by decide +kernel
theorem d_Model_image_60 : decode b_Model_image 60 = .ok (.if_icmp .ge 21, 3) := by decide +kernel
theorem d_Model_image_63 : decode b_Model_image 63 = .ok (.aload_n 0, 1) := by decide +kernel
theorem d_Model_image_64 : decode b_Model_image 64 = .ok (.getfield 87, 3) := by decide +kernel
theorem d_Model_image_67 : decode b_Model_image 67 = .ok (.iload_n 1, 1) := by decide +kernel
theorem d_Model_image_68 : decode b_Model_image 68 = .ok (.aload_n 0, 1) := by decide +kernel
theorem d_Model_image_69 : decode b_Model_image 69 = .ok (.getfield 34, 3) := by decide +kernel
theorem d_Model_image_72 : decode b_Model_image 72 = .ok (.iload_n 1, 1) := by decide +kernel
theorem d_Model_image_73 : decode b_Model_image 73 = .ok (.iaload, 1) := by decide +kernel
theorem d_Model_image_74 : decode b_Model_image 74 = .ok (.iastore, 1) := by decide +kernel
theorem d_Model_image_75 : decode b_Model_image 75 = .ok (.iinc 1 1, 3) := by decide +kernel
theorem d_Model_image_78 : decode b_Model_image 78 = .ok (.goto (-21), 3) := by decide +kernel
theorem d_Model_image_81 : decode b_Model_image 81 = .ok (.aload_n 0, 1) := by decide +kernel
theorem d_Model_image_82 : decode b_Model_image 82 = .ok (.getfield 151, 3) := by decide +kernel
theorem d_Model_image_85 : decode b_Model_image 85 = .ok (.ireturn, 1) := by decide +kernel
theorem v_Model_image : dk_Yv y_Model_image b_Model_image 2 (some .int) 0 := ⟨dk_in (List.mem_of_getElem? (i := 1366) (by decide +kernel)) rfl, dk_in (List.mem_of_getElem? (i := 1367) (by decide +kernel)) rfl, dk_in (List.mem_of_getElem? (i := 75) (by decide +kernel)) rfl, dk_in (List.mem_of_getElem? (i := 1368) (by decide +kernel)) rfl, by decide +kernel, by decide +kernel, by decide +kernel⟩
abbrev rm_Model_image : Room := { frames := 0, cells := 0, slots := 0, locals := 0 }
theorem f_Model_312 : Cond.fieldLink R_Model 312 (T_Model 31).1 (T_Model 31).2.1 (T_Model 31).2.2.1 ∈ dk_tb := dk_in (List.mem_of_getElem? (i := 995) (by decide +kernel)) rfl
theorem f_Model_316 : Cond.fieldLink R_Model 316 (T_Model 32).1 (T_Model 32).2.1 (T_Model 32).2.2.1 ∈ dk_tb := dk_in (List.mem_of_getElem? (i := 996) (by decide +kernel)) rfl
theorem f_Model_319 : Cond.fieldLink R_Model 319 (T_Model 33).1 (T_Model 33).2.1 (T_Model 33).2.2.1 ∈ dk_tb := dk_in (List.mem_of_getElem? (i := 997) (by decide +kernel)) rfl
theorem f_Model_322 : Cond.fieldLink R_Model 322 (T_Model 34).1 (T_Model 34).2.1 (T_Model 34).2.2.1 ∈ dk_tb := dk_in (List.mem_of_getElem? (i := 998) (by decide +kernel)) rfl
theorem f_Model_84 : Cond.fieldLink R_Model 84 (T_Model 35).1 (T_Model 35).2.1 (T_Model 35).2.2.1 ∈ dk_tb := dk_in (List.mem_of_getElem? (i := 999) (by decide +kernel)) rfl
theorem f_Model_87 : Cond.fieldLink R_Model 87 (T_Model 36).1 (T_Model 36).2.1 (T_Model 36).2.2.1 ∈ dk_tb := dk_in (List.mem_of_getElem? (i := 1000) (by decide +kernel)) rfl
def B_Model_image_57b (n : Nat) (k57 : Int32 → dk_S → Option (Int32 × dk_S)) (x1 : Int32) (S : dk_S) : Option (Int32 × dk_S) :=
  if (32 : Int32) ≤ x1 then (some ((S 5 0), S)) else (dk_r 32 (S 11) x1 fun v1 => dk_w S 36 32 x1 v1 fun S2 => k57 (x1 + (1 : Int32)) S2)
set_option maxRecDepth 20000 in
theorem kb_Model_image_57b {p : Program} {l : Launch} {e : Env} {s : State} {m : MethodId} {args : Array Value} {below : List Frame} {meth : Method} {c : Code} {g : dk_G} {A : Nat → Prop} {Q : State → Prop} {am : Nat → Nat} {n : Nat} {res : (Int32 × dk_S)} (X : dk_X p s m args meth c b_Model_image 2 R_Model (some .int) g A) (hR : dk_Ri p l e rm_Model_image s m args below meth c g A Q 2 b_Model_image (some .int) (wM g am) res) {k57 : Int32 → dk_S → Option (Int32 × dk_S)} (hk57 : ∀ (x1 : Int32)  (S : dk_S), k57 x1 S = some res → dk_J p l e rm_Model_image s m args below meth c g A Q 2 0 0 57 [(0, .ref (am 0)), (1, .int x1)] [] (wM g am S)) {x1 : Int32} {S : dk_S}  (hF : B_Model_image_57b n k57 x1 S = some res) : dk_J p l e rm_Model_image s m args below meth c g A Q 2 0 0 57 [(0, .ref (am 0)), (1, .int x1)] [] (wM g am S) := by
  unfold B_Model_image_57b at hF
  refine dk_iload_n (k := 1) (i := 1) X 1 rfl rfl d_Model_image_57 ?_
  refine dk_bipush (v := 32) X (by decide) d_Model_image_58 ?_
  refine dk_icmp_ge (tgt := 81) X (by decide) d_Model_image_60 hF (fun hF => ?_) (fun hF => ?_)
  · refine dk_aload_n (k := 0) (i := 0) X 0 rfl rfl d_Model_image_81 ?_
    refine dk_get X q_Model 0 5 (by decide) (oM_Model g am S) rfl f_Model_151 d_Model_image_82 ?_
    exact dk_reti hR hF d_Model_image_85
  · refine dk_aload_n (k := 0) (i := 0) X 0 rfl rfl d_Model_image_63 ?_
    refine dk_get X q_Model 0 36 (by decide) (oM_Model g am S) rfl f_Model_87 d_Model_image_64 ?_
    refine dk_iload_n (k := 1) (i := 1) X 1 rfl rfl d_Model_image_67 ?_
    refine dk_aload_n (k := 0) (i := 0) X 0 rfl rfl d_Model_image_68 ?_
    refine dk_get X q_Model 0 11 (by decide) (oM_Model g am S) rfl f_Model_34 d_Model_image_69 ?_
    refine dk_iload_n (k := 1) (i := 1) X 1 rfl rfl d_Model_image_72 ?_
    refine dk_iald X 9 (aM_9 g am S) d_Model_image_73 hF (fun v1 hF => ?_)
    refine dk_iast X 25 (aM_25 g am S) (sM_25 g am S _ _) d_Model_image_74 hF (fun S2 hF => ?_)
    refine dk_iinc (i := 1) (v := (x1 + (1 : Int32))) (lv' := [(1, .int (x1 + (1 : Int32))), (0, .ref (am 0))]) X 1 rfl (dk_ii _ (by decide)) (by decide) rfl d_Model_image_75 ?_
    refine dk_goto (tgt := 57) X (by decide) d_Model_image_78 ?_
    exact dk_sub [1, 0] rfl (hk57 (x1 + (1 : Int32)) S2 hF)
def B_Model_image_57 (n : Nat)  : Nat → Int32 → dk_S → Option (Int32 × dk_S)
  | 0 => fun _ _ => none
  | q + 1 => fun x1 S => B_Model_image_57b n (fun x1 S => B_Model_image_57 n  q x1 S) x1 S
theorem kb_Model_image_57 {p : Program} {l : Launch} {e : Env} {s : State} {m : MethodId} {args : Array Value} {below : List Frame} {meth : Method} {c : Code} {g : dk_G} {A : Nat → Prop} {Q : State → Prop} {am : Nat → Nat} {n : Nat} {res : (Int32 × dk_S)} (X : dk_X p s m args meth c b_Model_image 2 R_Model (some .int) g A) (hR : dk_Ri p l e rm_Model_image s m args below meth c g A Q 2 b_Model_image (some .int) (wM g am) res)  : ∀ (q : Nat) (x1 : Int32)  (S : dk_S), B_Model_image_57 n  q x1 S = some res → dk_J p l e rm_Model_image s m args below meth c g A Q 2 0 0 57 [(0, .ref (am 0)), (1, .int x1)] [] (wM g am S) := by
  intro q
  induction q with
  | zero => intro x1  S hF; cases hF
  | succ q ih => intro x1  S hF; exact kb_Model_image_57b (n := n) X hR ih  hF
def B_Model_image_31b (n : Nat) (k31 : Int32 → dk_S → Option (Int32 × dk_S)) (x1 : Int32) (S : dk_S) : Option (Int32 × dk_S) :=
  if (8 : Int32) ≤ x1 then (B_Model_image_57 n  n (0 : Int32) S) else (dk_r 8 (S 1) x1 fun v3 => dk_w S 35 8 x1 v3 fun S4 => k31 (x1 + (1 : Int32)) S4)
set_option maxRecDepth 20000 in
theorem kb_Model_image_31b {p : Program} {l : Launch} {e : Env} {s : State} {m : MethodId} {args : Array Value} {below : List Frame} {meth : Method} {c : Code} {g : dk_G} {A : Nat → Prop} {Q : State → Prop} {am : Nat → Nat} {n : Nat} {res : (Int32 × dk_S)} (X : dk_X p s m args meth c b_Model_image 2 R_Model (some .int) g A) (hR : dk_Ri p l e rm_Model_image s m args below meth c g A Q 2 b_Model_image (some .int) (wM g am) res) {k31 : Int32 → dk_S → Option (Int32 × dk_S)} (hk31 : ∀ (x1 : Int32)  (S : dk_S), k31 x1 S = some res → dk_J p l e rm_Model_image s m args below meth c g A Q 2 0 0 31 [(0, .ref (am 0)), (1, .int x1)] [] (wM g am S)) {x1 : Int32} {S : dk_S}  (hF : B_Model_image_31b n k31 x1 S = some res) : dk_J p l e rm_Model_image s m args below meth c g A Q 2 0 0 31 [(0, .ref (am 0)), (1, .int x1)] [] (wM g am S) := by
  unfold B_Model_image_31b at hF
  refine dk_iload_n (k := 1) (i := 1) X 1 rfl rfl d_Model_image_31 ?_
  refine dk_bipush (v := 8) X (by decide) d_Model_image_32 ?_
  refine dk_icmp_ge (tgt := 55) X (by decide) d_Model_image_34 hF (fun hF => ?_) (fun hF => ?_)
  · refine dk_iconst (v := 0) X (by decide) d_Model_image_55 ?_
    refine dk_istore_n (k := 1) (i := 1) (lv' := [(1, .int (0 : Int32)), (0, .ref (am 0))]) X rfl (by decide) rfl d_Model_image_56 ?_
    exact dk_sub [1, 0] rfl (kb_Model_image_57 (n := n) X hR  n (0 : Int32) S hF)
  · refine dk_aload_n (k := 0) (i := 0) X 0 rfl rfl d_Model_image_37 ?_
    refine dk_get X q_Model 0 35 (by decide) (oM_Model g am S) rfl f_Model_84 d_Model_image_38 ?_
    refine dk_iload_n (k := 1) (i := 1) X 1 rfl rfl d_Model_image_41 ?_
    refine dk_aload_n (k := 0) (i := 0) X 0 rfl rfl d_Model_image_42 ?_
    refine dk_get X q_Model 0 1 (by decide) (oM_Model g am S) rfl f_Model_7 d_Model_image_43 ?_
    refine dk_iload_n (k := 1) (i := 1) X 1 rfl rfl d_Model_image_46 ?_
    refine dk_iald X 1 (aM_1 g am S) d_Model_image_47 hF (fun v3 hF => ?_)
    refine dk_iast X 24 (aM_24 g am S) (sM_24 g am S _ _) d_Model_image_48 hF (fun S4 hF => ?_)
    refine dk_iinc (i := 1) (v := (x1 + (1 : Int32))) (lv' := [(1, .int (x1 + (1 : Int32))), (0, .ref (am 0))]) X 1 rfl (dk_ii _ (by decide)) (by decide) rfl d_Model_image_49 ?_
    refine dk_goto (tgt := 31) X (by decide) d_Model_image_52 ?_
    exact dk_sub [1, 0] rfl (hk31 (x1 + (1 : Int32)) S4 hF)
def B_Model_image_31 (n : Nat)  : Nat → Int32 → dk_S → Option (Int32 × dk_S)
  | 0 => fun _ _ => none
  | q + 1 => fun x1 S => B_Model_image_31b n (fun x1 S => B_Model_image_31 n  q x1 S) x1 S
theorem kb_Model_image_31 {p : Program} {l : Launch} {e : Env} {s : State} {m : MethodId} {args : Array Value} {below : List Frame} {meth : Method} {c : Code} {g : dk_G} {A : Nat → Prop} {Q : State → Prop} {am : Nat → Nat} {n : Nat} {res : (Int32 × dk_S)} (X : dk_X p s m args meth c b_Model_image 2 R_Model (some .int) g A) (hR : dk_Ri p l e rm_Model_image s m args below meth c g A Q 2 b_Model_image (some .int) (wM g am) res)  : ∀ (q : Nat) (x1 : Int32)  (S : dk_S), B_Model_image_31 n  q x1 S = some res → dk_J p l e rm_Model_image s m args below meth c g A Q 2 0 0 31 [(0, .ref (am 0)), (1, .int x1)] [] (wM g am S) := by
  intro q
  induction q with
  | zero => intro x1  S hF; cases hF
  | succ q ih => intro x1  S hF; exact kb_Model_image_31b (n := n) X hR ih  hF
def B_Model_image_0 (n : Nat)   (S : dk_S) : Option (Int32 × dk_S) :=
  dk_b (1 : Int32) <| dk_p S 31 (1 : Int32) fun S5 => dk_p S5 32 (S5 0 0) fun S6 => dk_p S6 33 (S6 5 0) fun S7 => dk_p S7 34 (S7 17 0) fun S8 => B_Model_image_31 n  n (0 : Int32) S8
set_option maxRecDepth 20000 in
theorem kb_Model_image_0 {p : Program} {l : Launch} {e : Env} {s : State} {m : MethodId} {args : Array Value} {below : List Frame} {meth : Method} {c : Code} {g : dk_G} {A : Nat → Prop} {Q : State → Prop} {am : Nat → Nat} {n : Nat} {res : (Int32 × dk_S)} (X : dk_X p s m args meth c b_Model_image 2 R_Model (some .int) g A) (hR : dk_Ri p l e rm_Model_image s m args below meth c g A Q 2 b_Model_image (some .int) (wM g am) res)   {S : dk_S}  (hF : B_Model_image_0 n   S = some res) : dk_J p l e rm_Model_image s m args below meth c g A Q 2 0 0 0 [(0, .ref (am 0))] [] (wM g am S) := by
  unfold B_Model_image_0 at hF
  refine dk_aload_n (k := 0) (i := 0) X 0 rfl rfl d_Model_image_0 ?_
  refine dk_iconst (v := 1) X (by decide) d_Model_image_1 ?_
  refine dk_putz X q_Model 0 31 (by decide) (oM_Model g am S) f_Model_312 rfl rfl (Nat.le_of_ble_eq_true rfl) (sM_Model_hasImage g am S _) d_Model_image_2 hF (fun S5 hF => ?_)
  refine dk_aload_n (k := 0) (i := 0) X 0 rfl rfl d_Model_image_5 ?_
  refine dk_aload_n (k := 0) (i := 0) X 0 rfl rfl d_Model_image_6 ?_
  refine dk_get X q_Model 0 0 (by decide) (oM_Model g am S5) rfl f_Model_141 d_Model_image_7 ?_
  refine dk_puti X q_Model 0 32 (by decide) (oM_Model g am S5) f_Model_316 rfl rfl (Nat.le_of_ble_eq_true rfl) (sM_Model_imageGrounds g am S5 _) d_Model_image_10 hF (fun S6 hF => ?_)
  refine dk_aload_n (k := 0) (i := 0) X 0 rfl rfl d_Model_image_13 ?_
  refine dk_aload_n (k := 0) (i := 0) X 0 rfl rfl d_Model_image_14 ?_
  refine dk_get X q_Model 0 5 (by decide) (oM_Model g am S6) rfl f_Model_151 d_Model_image_15 ?_
  refine dk_puti X q_Model 0 33 (by decide) (oM_Model g am S6) f_Model_319 rfl rfl (Nat.le_of_ble_eq_true rfl) (sM_Model_imageMoments g am S6 _) d_Model_image_18 hF (fun S7 hF => ?_)
  refine dk_aload_n (k := 0) (i := 0) X 0 rfl rfl d_Model_image_21 ?_
  refine dk_aload_n (k := 0) (i := 0) X 0 rfl rfl d_Model_image_22 ?_
  refine dk_get X q_Model 0 17 (by decide) (oM_Model g am S7) rfl f_Model_229 d_Model_image_23 ?_
  refine dk_puti X q_Model 0 34 (by decide) (oM_Model g am S7) f_Model_322 rfl rfl (Nat.le_of_ble_eq_true rfl) (sM_Model_imageRule g am S7 _) d_Model_image_26 hF (fun S8 hF => ?_)
  refine dk_iconst (v := 0) X (by decide) d_Model_image_29 ?_
  refine dk_istore_n (k := 1) (i := 1) (lv' := [(1, .int (0 : Int32)), (0, .ref (am 0))]) X rfl (by decide) rfl d_Model_image_30 ?_
  exact dk_sub [1, 0] rfl (kb_Model_image_31 (n := n) X hR  n (0 : Int32) S8 hF)
def F_Model_image (n : Nat)  (S : dk_S) : Option (Int32 × dk_S) := B_Model_image_0 n  S
theorem c_Model_image (l : Launch) (g : dk_G) (am : Nat → Nat) (n : Nat)   (S : dk_S) : dk_Mi l g y_Model_image b_Model_image 2 rm_Model_image (some .int) [.ref (am 0)] (wM g am) S (F_Model_image n  S) := dk_enteri (by decide) (Nat.le_of_ble_eq_true rfl) (fun p e s m args below meth c A Q res hF X hR => (kb_Model_image_0 (n := n) X hR  hF))
abbrev b_Model_back : ByteArray := prog_11_method_67_code
def y_Model_back : MethodName := ⟨R_Model, "back", "()I"⟩
theorem d_Model_back_0 : decode b_Model_back 0 = .ok (.aload_n 0, 1) := by decide +kernel
theorem d_Model_back_1 : decode b_Model_back 1 = .ok (.getfield 312, 3) := by decide +kernel
theorem d_Model_back_4 : decode b_Model_back 4 = .ok (.ifCond .ne 6, 3) := by decide +kernel
theorem d_Model_back_7 : decode b_Model_back 7 = .ok (.bipush (-3), 2) := by decide +kernel
theorem d_Model_back_9 : decode b_Model_back 9 = .ok (.ireturn, 1) := by decide +kernel
theorem d_Model_back_10 : decode b_Model_back 10 = .ok (.aload_n 0, 1) := by decide +kernel
theorem d_Model_back_11 : decode b_Model_back 11 = .ok (.aload_n 0, 1) := by decide +kernel
theorem d_Model_back_12 : decode b_Model_back 12 = .ok (.getfield 322, 3) := by decide +kernel
theorem d_Model_back_15 : decode b_Model_back 15 = .ok (.putfield 229, 3) := by decide +kernel
theorem d_Model_back_18 : decode b_Model_back 18 = .ok (.iconst 0, 1) := by decide +kernel
theorem d_Model_back_19 : decode b_Model_back 19 = .ok (.istore_n 1, 1) := by decide +kernel
theorem d_Model_back_20 : decode b_Model_back 20 = .ok (.iload_n 1, 1) := by decide +kernel
theorem d_Model_back_21 : decode b_Model_back 21 = .ok (.aload_n 0, 1) := by decide +kernel
theorem d_Model_back_22 : decode b_Model_back 22 = .ok (.getfield 316, 3) := by decide +kernel
theorem d_Model_back_25 : decode b_Model_back 25 = .ok (.if_icmp .ge 21, 3) := by decide +kernel
theorem d_Model_back_28 : decode b_Model_back 28 = .ok (.aload_n 0, 1) := by decide +kernel
theorem d_Model_back_29 : decode b_Model_back 29 = .ok (.getfield 7, 3) := by decide +kernel
theorem d_Model_back_32 : decode b_Model_back 32 = .ok (.iload_n 1, 1) := by decide +kernel
theorem d_Model_back_33 : decode b_Model_back 33 = .ok (.aload_n 0, 1) := by decide +kernel
theorem d_Model_back_34 : decode b_Model_back 34 = .ok (.getfield 84, 3) := by decide +kernel
theorem d_Model_back_37 : decode b_Model_back 37 = .ok (.iload_n 1, 1) := by decide +kernel
theorem d_Model_back_38 : decode b_Model_back 38 = .ok (.iaload, 1) := by decide +kernel
theorem d_Model_back_39 : decode b_Model_back 39 = .ok (.iastore, 1) := by decide +kernel
theorem d_Model_back_40 : decode b_Model_back 40 = .ok (.iinc 1 1, 3) := by decide +kernel
theorem d_Model_back_43 : decode b_Model_back 43 = .ok (.goto (-23), 3) := by decide +kernel
theorem d_Model_back_46 : decode b_Model_back 46 = .ok (.aload_n 0, 1) := by decide +kernel
theorem d_Model_back_47 : decode b_Model_back 47 = .ok (.aload_n 0, 1) := by decide +kernel
theorem d_Model_back_48 : decode b_Model_back 48 = .ok (.getfield 151, 3) := by decide +kernel
theorem d_Model_back_51 : decode b_Model_back 51 = .ok (.aload_n 0, 1) := by decide +kernel
theorem d_Model_back_52 : decode b_Model_back 52 = .ok (.getfield 319, 3) := by decide +kernel
theorem d_Model_back_55 : decode b_Model_back 55 = .ok (.if_icmp .ge 10, 3) := by decide +kernel
theorem d_Model_back_58 : decode b_Model_back 58 = .ok (.aload_n 0, 1) := by decide +kernel
theorem d_Model_back_59 : decode b_Model_back 59 = .ok (.getfield 151, 3) := by decide +kernel
theorem d_Model_back_62 : decode b_Model_back 62 = .ok (.goto 7, 3) := by decide +kernel
theorem d_Model_back_65 : decode b_Model_back 65 = .ok (.aload_n 0, 1) := by decide +kernel
theorem d_Model_back_66 : decode b_Model_back 66 = .ok (.getfield 319, 3) := by decide +kernel
theorem d_Model_back_69 : decode b_Model_back 69 = .ok (.putfield 151, 3) := by decide +kernel
theorem d_Model_back_72 : decode b_Model_back 72 = .ok (.iconst 0, 1) := by decide +kernel
theorem d_Model_back_73 : decode b_Model_back 73 = .ok (.istore_n 1, 1) := by decide +kernel
theorem d_Model_back_74 : decode b_Model_back 74 = .ok (.iload_n 1, 1) := by decide +kernel
theorem d_Model_back_75 : decode b_Model_back 75 = .ok (.bipush 32, 2) := by decide +kernel
theorem d_Model_back_77 : decode b_Model_back 77 = .ok (.if_icmp .ge 33, 3) := by decide +kernel
theorem d_Model_back_80 : decode b_Model_back 80 = .ok (.aload_n 0, 1) := by decide +kernel
theorem d_Model_back_81 : decode b_Model_back 81 = .ok (.getfield 34, 3) := by decide +kernel
theorem d_Model_back_84 : decode b_Model_back 84 = .ok (.iload_n 1, 1) := by decide +kernel
theorem d_Model_back_85 : decode b_Model_back 85 = .ok (.iload_n 1, 1) := by decide +kernel
theorem d_Model_back_86 : decode b_Model_back 86 = .ok (.aload_n 0, 1) := by decide +kernel
theorem d_Model_back_87 : decode b_Model_back 87 = .ok (.getfield 151, 3) := by decide +kernel
theorem d_Model_back_90 : decode b_Model_back 90 = .ok (.if_icmp .ge 12, 3) := by decide +kernel
theorem d_Model_back_93 : decode b_Model_back 93 = .ok (.aload_n 0, 1) := by decide +kernel
theorem d_Model_back_94 : decode b_Model_back 94 = .ok (.getfield 87, 3) := by decide +kernel
theorem d_Model_back_97 : decode b_Model_back 97 = .ok (.iload_n 1, 1) := by decide +kernel
theorem d_Model_back_98 : decode b_Model_back 98 = .ok (.iaload, 1) := by decide +kernel
theorem d_Model_back_99 : decode b_Model_back 99 = .ok (.goto 4, 3) := by decide +kernel
theorem d_Model_back_102 : decode b_Model_back 102 = .ok (.iconst 0, 1) := by decide +kernel
theorem d_Model_back_103 : decode b_Model_back 103 = .ok (.iastore, 1) := by decide +kernel
theorem d_Model_back_104 : decode b_Model_back 104 = .ok (.iinc 1 1, 3) := by decide +kernel
theorem d_Model_back_107 : decode b_Model_back 107 = .ok (.goto (-33), 3) := by decide +kernel
theorem d_Model_back_110 : decode b_Model_back 110 = .ok (.aload_n 0, 1) := by decide +kernel
theorem d_Model_back_111 : decode b_Model_back 111 = .ok (.getfield 151, 3) := by decide +kernel
theorem d_Model_back_114 : decode b_Model_back 114 = .ok (.ireturn, 1) := by decide +kernel
theorem v_Model_back : dk_Yv y_Model_back b_Model_back 2 (some .int) 0 := ⟨dk_in (List.mem_of_getElem? (i := 1370) (by decide +kernel)) rfl, dk_in (List.mem_of_getElem? (i := 1371) (by decide +kernel)) rfl, dk_in (List.mem_of_getElem? (i := 75) (by decide +kernel)) rfl, dk_in (List.mem_of_getElem? (i := 1372) (by decide +kernel)) rfl, by decide +kernel, by decide +kernel, by decide +kernel⟩
abbrev rm_Model_back : Room := { frames := 0, cells := 0, slots := 0, locals := 0 }
def B_Model_back_103 (n : Nat) (k74 : Int32 → dk_S → Option (Int32 × dk_S)) (x1 : Int32) (u1 : Int32) (u2 : Int32) (S : dk_S) : Option (Int32 × dk_S) :=
  dk_w S 11 32 u1 u2 fun S1 => k74 (x1 + (1 : Int32)) S1
set_option maxRecDepth 20000 in
theorem kb_Model_back_103 {p : Program} {l : Launch} {e : Env} {s : State} {m : MethodId} {args : Array Value} {below : List Frame} {meth : Method} {c : Code} {g : dk_G} {A : Nat → Prop} {Q : State → Prop} {am : Nat → Nat} {n : Nat} {res : (Int32 × dk_S)} (X : dk_X p s m args meth c b_Model_back 2 R_Model (some .int) g A) (hR : dk_Ri p l e rm_Model_back s m args below meth c g A Q 2 b_Model_back (some .int) (wM g am) res) {k74 : Int32 → dk_S → Option (Int32 × dk_S)} (hk74 : ∀ (x1 : Int32)  (S : dk_S), k74 x1 S = some res → dk_J p l e rm_Model_back s m args below meth c g A Q 2 0 0 74 [(0, .ref (am 0)), (1, .int x1)] [] (wM g am S)) {x1 : Int32} {u1 : Int32} {u2 : Int32} {S : dk_S}  (hF : B_Model_back_103 n k74 x1 u1 u2 S = some res) : dk_J p l e rm_Model_back s m args below meth c g A Q 2 0 0 103 [(0, .ref (am 0)), (1, .int x1)] [.int u2, .int u1, .ref (am 9)] (wM g am S) := by
  unfold B_Model_back_103 at hF
  refine dk_iast X 9 (aM_9 g am S) (sM_9 g am S _ _) d_Model_back_103 hF (fun S1 hF => ?_)
  refine dk_iinc (i := 1) (v := (x1 + (1 : Int32))) (lv' := [(1, .int (x1 + (1 : Int32))), (0, .ref (am 0))]) X 1 rfl (dk_ii _ (by decide)) (by decide) rfl d_Model_back_104 ?_
  refine dk_goto (tgt := 74) X (by decide) d_Model_back_107 ?_
  exact dk_sub [1, 0] rfl (hk74 (x1 + (1 : Int32)) S1 hF)
def B_Model_back_74b (n : Nat) (k74 : Int32 → dk_S → Option (Int32 × dk_S)) (x1 : Int32) (S : dk_S) : Option (Int32 × dk_S) :=
  if (32 : Int32) ≤ x1 then (some ((S 5 0), S)) else (if (S 5 0) ≤ x1 then (B_Model_back_103 n k74 x1 x1 (0 : Int32) S) else (dk_r 32 (S 36) x1 fun v2 => B_Model_back_103 n k74 x1 x1 v2 S))
set_option maxRecDepth 20000 in
theorem kb_Model_back_74b {p : Program} {l : Launch} {e : Env} {s : State} {m : MethodId} {args : Array Value} {below : List Frame} {meth : Method} {c : Code} {g : dk_G} {A : Nat → Prop} {Q : State → Prop} {am : Nat → Nat} {n : Nat} {res : (Int32 × dk_S)} (X : dk_X p s m args meth c b_Model_back 2 R_Model (some .int) g A) (hR : dk_Ri p l e rm_Model_back s m args below meth c g A Q 2 b_Model_back (some .int) (wM g am) res) {k74 : Int32 → dk_S → Option (Int32 × dk_S)} (hk74 : ∀ (x1 : Int32)  (S : dk_S), k74 x1 S = some res → dk_J p l e rm_Model_back s m args below meth c g A Q 2 0 0 74 [(0, .ref (am 0)), (1, .int x1)] [] (wM g am S)) {x1 : Int32} {S : dk_S}  (hF : B_Model_back_74b n k74 x1 S = some res) : dk_J p l e rm_Model_back s m args below meth c g A Q 2 0 0 74 [(0, .ref (am 0)), (1, .int x1)] [] (wM g am S) := by
  unfold B_Model_back_74b at hF
  refine dk_iload_n (k := 1) (i := 1) X 1 rfl rfl d_Model_back_74 ?_
  refine dk_bipush (v := 32) X (by decide) d_Model_back_75 ?_
  refine dk_icmp_ge (tgt := 110) X (by decide) d_Model_back_77 hF (fun hF => ?_) (fun hF => ?_)
  · refine dk_aload_n (k := 0) (i := 0) X 0 rfl rfl d_Model_back_110 ?_
    refine dk_get X q_Model 0 5 (by decide) (oM_Model g am S) rfl f_Model_151 d_Model_back_111 ?_
    exact dk_reti hR hF d_Model_back_114
  · refine dk_aload_n (k := 0) (i := 0) X 0 rfl rfl d_Model_back_80 ?_
    refine dk_get X q_Model 0 11 (by decide) (oM_Model g am S) rfl f_Model_34 d_Model_back_81 ?_
    refine dk_iload_n (k := 1) (i := 1) X 1 rfl rfl d_Model_back_84 ?_
    refine dk_iload_n (k := 1) (i := 1) X 1 rfl rfl d_Model_back_85 ?_
    refine dk_aload_n (k := 0) (i := 0) X 0 rfl rfl d_Model_back_86 ?_
    refine dk_get X q_Model 0 5 (by decide) (oM_Model g am S) rfl f_Model_151 d_Model_back_87 ?_
    refine dk_icmp_ge (tgt := 102) X (by decide) d_Model_back_90 hF (fun hF => ?_) (fun hF => ?_)
    · refine dk_iconst (v := 0) X (by decide) d_Model_back_102 ?_
      exact (kb_Model_back_103 (n := n) X hR hk74  hF)
    · refine dk_aload_n (k := 0) (i := 0) X 0 rfl rfl d_Model_back_93 ?_
      refine dk_get X q_Model 0 36 (by decide) (oM_Model g am S) rfl f_Model_87 d_Model_back_94 ?_
      refine dk_iload_n (k := 1) (i := 1) X 1 rfl rfl d_Model_back_97 ?_
      refine dk_iald X 25 (aM_25 g am S) d_Model_back_98 hF (fun v2 hF => ?_)
      refine dk_goto (tgt := 103) X (by decide) d_Model_back_99 ?_
      exact (kb_Model_back_103 (n := n) X hR hk74  hF)
def B_Model_back_74 (n : Nat)  : Nat → Int32 → dk_S → Option (Int32 × dk_S)
  | 0 => fun _ _ => none
  | q + 1 => fun x1 S => B_Model_back_74b n (fun x1 S => B_Model_back_74 n  q x1 S) x1 S
theorem kb_Model_back_74 {p : Program} {l : Launch} {e : Env} {s : State} {m : MethodId} {args : Array Value} {below : List Frame} {meth : Method} {c : Code} {g : dk_G} {A : Nat → Prop} {Q : State → Prop} {am : Nat → Nat} {n : Nat} {res : (Int32 × dk_S)} (X : dk_X p s m args meth c b_Model_back 2 R_Model (some .int) g A) (hR : dk_Ri p l e rm_Model_back s m args below meth c g A Q 2 b_Model_back (some .int) (wM g am) res)  : ∀ (q : Nat) (x1 : Int32)  (S : dk_S), B_Model_back_74 n  q x1 S = some res → dk_J p l e rm_Model_back s m args below meth c g A Q 2 0 0 74 [(0, .ref (am 0)), (1, .int x1)] [] (wM g am S) := by
  intro q
  induction q with
  | zero => intro x1  S hF; cases hF
  | succ q ih => intro x1  S hF; exact kb_Model_back_74b (n := n) X hR ih  hF
def B_Model_back_69 (n : Nat)  (u1 : Int32) (S : dk_S) : Option (Int32 × dk_S) :=
  dk_p S 5 u1 fun S3 => B_Model_back_74 n  n (0 : Int32) S3
set_option maxRecDepth 20000 in
theorem kb_Model_back_69 {p : Program} {l : Launch} {e : Env} {s : State} {m : MethodId} {args : Array Value} {below : List Frame} {meth : Method} {c : Code} {g : dk_G} {A : Nat → Prop} {Q : State → Prop} {am : Nat → Nat} {n : Nat} {res : (Int32 × dk_S)} (X : dk_X p s m args meth c b_Model_back 2 R_Model (some .int) g A) (hR : dk_Ri p l e rm_Model_back s m args below meth c g A Q 2 b_Model_back (some .int) (wM g am) res)  {u1 : Int32} {S : dk_S}  (hF : B_Model_back_69 n  u1 S = some res) : dk_J p l e rm_Model_back s m args below meth c g A Q 2 0 0 69 [(0, .ref (am 0))] [.int u1, .ref (am 0)] (wM g am S) := by
  unfold B_Model_back_69 at hF
  refine dk_puti X q_Model 0 5 (by decide) (oM_Model g am S) f_Model_151 rfl rfl (Nat.le_of_ble_eq_true rfl) (sM_Model_moments g am S _) d_Model_back_69 hF (fun S3 hF => ?_)
  refine dk_iconst (v := 0) X (by decide) d_Model_back_72 ?_
  refine dk_istore_n (k := 1) (i := 1) (lv' := [(1, .int (0 : Int32)), (0, .ref (am 0))]) X rfl (by decide) rfl d_Model_back_73 ?_
  exact dk_sub [1, 0] rfl (kb_Model_back_74 (n := n) X hR  n (0 : Int32) S3 hF)
def B_Model_back_20b (n : Nat) (k20 : Int32 → dk_S → Option (Int32 × dk_S)) (x1 : Int32) (S : dk_S) : Option (Int32 × dk_S) :=
  if (S 32 0) ≤ x1 then (if (S 33 0) ≤ (S 5 0) then (B_Model_back_69 n  (S 33 0) S) else (B_Model_back_69 n  (S 5 0) S)) else (dk_r 8 (S 35) x1 fun v4 => dk_w S 1 8 x1 v4 fun S5 => k20 (x1 + (1 : Int32)) S5)
set_option maxRecDepth 20000 in
theorem kb_Model_back_20b {p : Program} {l : Launch} {e : Env} {s : State} {m : MethodId} {args : Array Value} {below : List Frame} {meth : Method} {c : Code} {g : dk_G} {A : Nat → Prop} {Q : State → Prop} {am : Nat → Nat} {n : Nat} {res : (Int32 × dk_S)} (X : dk_X p s m args meth c b_Model_back 2 R_Model (some .int) g A) (hR : dk_Ri p l e rm_Model_back s m args below meth c g A Q 2 b_Model_back (some .int) (wM g am) res) {k20 : Int32 → dk_S → Option (Int32 × dk_S)} (hk20 : ∀ (x1 : Int32)  (S : dk_S), k20 x1 S = some res → dk_J p l e rm_Model_back s m args below meth c g A Q 2 0 0 20 [(0, .ref (am 0)), (1, .int x1)] [] (wM g am S)) {x1 : Int32} {S : dk_S}  (hF : B_Model_back_20b n k20 x1 S = some res) : dk_J p l e rm_Model_back s m args below meth c g A Q 2 0 0 20 [(0, .ref (am 0)), (1, .int x1)] [] (wM g am S) := by
  unfold B_Model_back_20b at hF
  refine dk_iload_n (k := 1) (i := 1) X 1 rfl rfl d_Model_back_20 ?_
  refine dk_aload_n (k := 0) (i := 0) X 0 rfl rfl d_Model_back_21 ?_
  refine dk_get X q_Model 0 32 (by decide) (oM_Model g am S) rfl f_Model_316 d_Model_back_22 ?_
  refine dk_icmp_ge (tgt := 46) X (by decide) d_Model_back_25 hF (fun hF => ?_) (fun hF => ?_)
  · refine dk_aload_n (k := 0) (i := 0) X 0 rfl rfl d_Model_back_46 ?_
    refine dk_aload_n (k := 0) (i := 0) X 0 rfl rfl d_Model_back_47 ?_
    refine dk_get X q_Model 0 5 (by decide) (oM_Model g am S) rfl f_Model_151 d_Model_back_48 ?_
    refine dk_aload_n (k := 0) (i := 0) X 0 rfl rfl d_Model_back_51 ?_
    refine dk_get X q_Model 0 33 (by decide) (oM_Model g am S) rfl f_Model_319 d_Model_back_52 ?_
    refine dk_icmp_ge (tgt := 65) X (by decide) d_Model_back_55 hF (fun hF => ?_) (fun hF => ?_)
    · refine dk_aload_n (k := 0) (i := 0) X 0 rfl rfl d_Model_back_65 ?_
      refine dk_get X q_Model 0 33 (by decide) (oM_Model g am S) rfl f_Model_319 d_Model_back_66 ?_
      exact dk_sub [0] rfl (kb_Model_back_69 (n := n) X hR   hF)
    · refine dk_aload_n (k := 0) (i := 0) X 0 rfl rfl d_Model_back_58 ?_
      refine dk_get X q_Model 0 5 (by decide) (oM_Model g am S) rfl f_Model_151 d_Model_back_59 ?_
      refine dk_goto (tgt := 69) X (by decide) d_Model_back_62 ?_
      exact dk_sub [0] rfl (kb_Model_back_69 (n := n) X hR   hF)
  · refine dk_aload_n (k := 0) (i := 0) X 0 rfl rfl d_Model_back_28 ?_
    refine dk_get X q_Model 0 1 (by decide) (oM_Model g am S) rfl f_Model_7 d_Model_back_29 ?_
    refine dk_iload_n (k := 1) (i := 1) X 1 rfl rfl d_Model_back_32 ?_
    refine dk_aload_n (k := 0) (i := 0) X 0 rfl rfl d_Model_back_33 ?_
    refine dk_get X q_Model 0 35 (by decide) (oM_Model g am S) rfl f_Model_84 d_Model_back_34 ?_
    refine dk_iload_n (k := 1) (i := 1) X 1 rfl rfl d_Model_back_37 ?_
    refine dk_iald X 24 (aM_24 g am S) d_Model_back_38 hF (fun v4 hF => ?_)
    refine dk_iast X 1 (aM_1 g am S) (sM_1 g am S _ _) d_Model_back_39 hF (fun S5 hF => ?_)
    refine dk_iinc (i := 1) (v := (x1 + (1 : Int32))) (lv' := [(1, .int (x1 + (1 : Int32))), (0, .ref (am 0))]) X 1 rfl (dk_ii _ (by decide)) (by decide) rfl d_Model_back_40 ?_
    refine dk_goto (tgt := 20) X (by decide) d_Model_back_43 ?_
    exact dk_sub [1, 0] rfl (hk20 (x1 + (1 : Int32)) S5 hF)
def B_Model_back_20 (n : Nat)  : Nat → Int32 → dk_S → Option (Int32 × dk_S)
  | 0 => fun _ _ => none
  | q + 1 => fun x1 S => B_Model_back_20b n (fun x1 S => B_Model_back_20 n  q x1 S) x1 S
theorem kb_Model_back_20 {p : Program} {l : Launch} {e : Env} {s : State} {m : MethodId} {args : Array Value} {below : List Frame} {meth : Method} {c : Code} {g : dk_G} {A : Nat → Prop} {Q : State → Prop} {am : Nat → Nat} {n : Nat} {res : (Int32 × dk_S)} (X : dk_X p s m args meth c b_Model_back 2 R_Model (some .int) g A) (hR : dk_Ri p l e rm_Model_back s m args below meth c g A Q 2 b_Model_back (some .int) (wM g am) res)  : ∀ (q : Nat) (x1 : Int32)  (S : dk_S), B_Model_back_20 n  q x1 S = some res → dk_J p l e rm_Model_back s m args below meth c g A Q 2 0 0 20 [(0, .ref (am 0)), (1, .int x1)] [] (wM g am S) := by
  intro q
  induction q with
  | zero => intro x1  S hF; cases hF
  | succ q ih => intro x1  S hF; exact kb_Model_back_20b (n := n) X hR ih  hF
def B_Model_back_0 (n : Nat)   (S : dk_S) : Option (Int32 × dk_S) :=
  if ¬ (S 31 0) = 0 then (dk_p S 17 (S 34 0) fun S6 => B_Model_back_20 n  n (0 : Int32) S6) else (some ((-3 : Int32), S))
set_option maxRecDepth 20000 in
theorem kb_Model_back_0 {p : Program} {l : Launch} {e : Env} {s : State} {m : MethodId} {args : Array Value} {below : List Frame} {meth : Method} {c : Code} {g : dk_G} {A : Nat → Prop} {Q : State → Prop} {am : Nat → Nat} {n : Nat} {res : (Int32 × dk_S)} (X : dk_X p s m args meth c b_Model_back 2 R_Model (some .int) g A) (hR : dk_Ri p l e rm_Model_back s m args below meth c g A Q 2 b_Model_back (some .int) (wM g am) res)   {S : dk_S}  (hF : B_Model_back_0 n   S = some res) : dk_J p l e rm_Model_back s m args below meth c g A Q 2 0 0 0 [(0, .ref (am 0))] [] (wM g am S) := by
  unfold B_Model_back_0 at hF
  refine dk_aload_n (k := 0) (i := 0) X 0 rfl rfl d_Model_back_0 ?_
  refine dk_get X q_Model 0 31 (by decide) (oM_Model g am S) rfl f_Model_312 d_Model_back_1 ?_
  refine dk_if_ne (tgt := 10) X (by decide) d_Model_back_4 hF (fun hF => ?_) (fun hF => ?_)
  · refine dk_aload_n (k := 0) (i := 0) X 0 rfl rfl d_Model_back_10 ?_
    refine dk_aload_n (k := 0) (i := 0) X 0 rfl rfl d_Model_back_11 ?_
    refine dk_get X q_Model 0 34 (by decide) (oM_Model g am S) rfl f_Model_322 d_Model_back_12 ?_
    refine dk_puti X q_Model 0 17 (by decide) (oM_Model g am S) f_Model_229 rfl rfl (Nat.le_of_ble_eq_true rfl) (sM_Model_rule g am S _) d_Model_back_15 hF (fun S6 hF => ?_)
    refine dk_iconst (v := 0) X (by decide) d_Model_back_18 ?_
    refine dk_istore_n (k := 1) (i := 1) (lv' := [(1, .int (0 : Int32)), (0, .ref (am 0))]) X rfl (by decide) rfl d_Model_back_19 ?_
    exact dk_sub [1, 0] rfl (kb_Model_back_20 (n := n) X hR  n (0 : Int32) S6 hF)
  · refine dk_bipush (v := -3) X (by decide) d_Model_back_7 ?_
    exact dk_reti hR hF d_Model_back_9
def F_Model_back (n : Nat)  (S : dk_S) : Option (Int32 × dk_S) := B_Model_back_0 n  S
theorem c_Model_back (l : Launch) (g : dk_G) (am : Nat → Nat) (n : Nat)   (S : dk_S) : dk_Mi l g y_Model_back b_Model_back 2 rm_Model_back (some .int) [.ref (am 0)] (wM g am) S (F_Model_back n  S) := dk_enteri (by decide) (Nat.le_of_ble_eq_true rfl) (fun p e s m args below meth c A Q res hF X hR => (kb_Model_back_0 (n := n) X hR  hF))
abbrev b_Model_sheet : ByteArray := prog_11_method_68_code
def y_Model_sheet : MethodName := ⟨R_Model, "sheet", "(III)I"⟩
theorem d_Model_sheet_0 : decode b_Model_sheet 0 = .ok (.iload_n 1, 1) := by decide +kernel
theorem d_Model_sheet_1 : decode b_Model_sheet 1 = .ok (.iconst 0, 1) := by decide +kernel
theorem d_Model_sheet_2 : decode b_Model_sheet 2 = .ok (.iconst 3, 1) := by decide +kernel
theorem d_Model_sheet_3 : decode b_Model_sheet 3 = .ok (.invokestatic 144, 3) := by decide +kernel
theorem d_Model_sheet_6 : decode b_Model_sheet 6 = .ok (.ifCond .eq 23, 3) := by decide +kernel
theorem d_Model_sheet_9 : decode b_Model_sheet 9 = .ok (.iload_n 2, 1) := by decide +kernel
theorem d_Model_sheet_10 : decode b_Model_sheet 10 = .ok (.iconst (-1), 1) := by decide +kernel
theorem d_Model_sheet_11 : decode b_Model_sheet 11 = .ok (.iconst 2, 1) := by decide +kernel
theorem d_Model_sheet_12 : decode b_Model_sheet 12 = .ok (.invokestatic 144, 3) := by decide +kernel
theorem d_Model_sheet_15 : decode b_Model_sheet 15 = .ok (.ifCond .eq 14, 3) := by decide +kernel
theorem d_Model_sheet_18 : decode b_Model_sheet 18 = .ok (.iload_n 2, 1) := by decide +kernel
theorem d_Model_sheet_19 : decode b_Model_sheet 19 = .ok (.iconst (-1), 1) := by decide +kernel
theorem d_Model_sheet_20 : decode b_Model_sheet 20 = .ok (.if_icmp .eq 12, 3) := by decide +kernel
theorem d_Model_sheet_23 : decode b_Model_sheet 23 = .ok (.iload_n 3, 1) := by decide +kernel
theorem d_Model_sheet_24 : decode b_Model_sheet 24 = .ok (.bipush 40, 2) := by decide +kernel
theorem d_Model_sheet_26 : decode b_Model_sheet 26 = .ok (.if_icmp .le 6, 3) := by decide +kernel
theorem d_Model_sheet_29 : decode b_Model_sheet 29 = .ok (.bipush (-2), 2) := by decide +kernel
theorem d_Model_sheet_31 : decode b_Model_sheet 31 = .ok (.ireturn, 1) := by decide +kernel
theorem d_Model_sheet_32 : decode b_Model_sheet 32 = .ok (.iload_n 2, 1) := by decide +kernel
theorem d_Model_sheet_33 : decode b_Model_sheet 33 = .ok (.iconst (-1), 1) := by decide +kernel
theorem d_Model_sheet_34 : decode b_Model_sheet 34 = .ok (.if_icmp .eq 10, 3) := by decide +kernel
theorem d_Model_sheet_37 : decode b_Model_sheet 37 = .ok (.iload_n 3, 1) := by decide +kernel
theorem d_Model_sheet_38 : decode b_Model_sheet 38 = .ok (.ifCond .ge 6, 3) := by decide +kernel
theorem d_Model_sheet_41 : decode b_Model_sheet 41 = .ok (.bipush (-14), 2) := by decide +kernel
theorem d_Model_sheet_43 : decode b_Model_sheet 43 = .ok (.ireturn, 1) := by decide +kernel
theorem d_Model_sheet_44 : decode b_Model_sheet 44 = .ok (.aload_n 0, 1) := by decide +kernel
theorem d_Model_sheet_45 : decode b_Model_sheet 45 = .ok (.getfield 90, 3) := by decide +kernel
theorem d_Model_sheet_48 : decode b_Model_sheet 48 = .ok (.iload_n 1, 1) := by decide +kernel
theorem d_Model_sheet_49 : decode b_Model_sheet 49 = .ok (.iload_n 2, 1) := by decide +kernel
theorem d_Model_sheet_50 : decode b_Model_sheet 50 = .ok (.iastore, 1) := by decide +kernel
theorem d_Model_sheet_51 : decode b_Model_sheet 51 = .ok (.aload_n 0, 1) := by decide +kernel
theorem d_Model_sheet_52 : decode b_Model_sheet 52 = .ok (.getfield 93, 3) := by decide +kernel
theorem d_Model_sheet_55 : decode b_Model_sheet 55 = .ok (.iload_n 1, 1) := by decide +kernel
theorem d_Model_sheet_56 : decode b_Model_sheet 56 = .ok (.iload_n 2, 1) := by decide +kernel
theorem d_Model_sheet_57 : decode b_Model_sheet 57 = .ok (.iconst (-1), 1) := by decide +kernel
theorem d_Model_sheet_58 : decode b_Model_sheet 58 = .ok (.if_icmp .ne 7, 3) := by decide +kernel
theorem d_Model_sheet_61 : decode b_Model_sheet 61 = .ok (.iconst 0, 1) := by decide +kernel
theorem d_Model_sheet_62 : decode b_Model_sheet 62 = .ok (.goto 4, 3) := by decide +kernel
theorem d_Model_sheet_65 : decode b_Model_sheet 65 = .ok (.iload_n 3, 1) := by decide +kernel
theorem d_Model_sheet_66 : decode b_Model_sheet 66 = .ok (.iastore, 1) := by decide +kernel
theorem d_Model_sheet_67 : decode b_Model_sheet 67 = .ok (.iconst 0, 1) := by decide +kernel
theorem d_Model_sheet_68 : decode b_Model_sheet 68 = .ok (.istore 4, 2) := by decide +kernel
theorem d_Model_sheet_70 : decode b_Model_sheet 70 = .ok (.iload 4, 2) := by decide +kernel
theorem d_Model_sheet_72 : decode b_Model_sheet 72 = .ok (.bipush 40, 2) := by decide +kernel
theorem d_Model_sheet_74 : decode b_Model_sheet 74 = .ok (.if_icmp .ge 22, 3) := by decide +kernel
theorem d_Model_sheet_77 : decode b_Model_sheet 77 = .ok (.aload_n 0, 1) := by decide +kernel
theorem d_Model_sheet_78 : decode b_Model_sheet 78 = .ok (.getfield 96, 3) := by decide +kernel
theorem d_Model_sheet_81 : decode b_Model_sheet 81 = .ok (.bipush 40, 2) := by decide +kernel
theorem d_Model_sheet_83 : decode b_Model_sheet 83 = .ok (.iload_n 1, 1) := by decide +kernel
theorem d_Model_sheet_84 : decode b_Model_sheet 84 = .ok (.imul, 1) := by decide +kernel
theorem d_Model_sheet_85 : decode b_Model_sheet 85 = .ok (.iload 4, 2) := by decide +kernel
theorem d_Model_sheet_87 : decode b_Model_sheet 87 = .ok (.iadd, 1) := by decide +kernel
theorem d_Model_sheet_88 : decode b_Model_sheet 88 = .ok (.iconst 0, 1) := by decide +kernel
theorem d_Model_sheet_89 : decode b_Model_sheet 89 = .ok (.iastore, 1) := by decide +kernel
theorem d_Model_sheet_90 : decode b_Model_sheet 90 = .ok (.iinc 4 1, 3) := by decide +kernel
theorem d_Model_sheet_93 : decode b_Model_sheet 93 = .ok (.goto (-23), 3) := by decide +kernel
theorem d_Model_sheet_96 : decode b_Model_sheet 96 = .ok (.iconst 1, 1) := by decide +kernel
theorem d_Model_sheet_97 : decode b_Model_sheet 97 = .ok (.ireturn, 1) := by decide +kernel
theorem v_Model_sheet : dk_Yv y_Model_sheet b_Model_sheet 5 (some .int) 3 := ⟨dk_in (List.mem_of_getElem? (i := 1374) (by decide +kernel)) rfl, dk_in (List.mem_of_getElem? (i := 1375) (by decide +kernel)) rfl, dk_in (List.mem_of_getElem? (i := 75) (by decide +kernel)) rfl, dk_in (List.mem_of_getElem? (i := 1376) (by decide +kernel)) rfl, by decide +kernel, by decide +kernel, by decide +kernel⟩
abbrev rm_Model_sheet : Room := { frames := 1, cells := 0, slots := 0, locals := 22 }
def B_Model_sheet_70b (n : Nat) (k70 : Int32 → Int32 → dk_S → Option (Int32 × dk_S)) (x1 : Int32) (x4 : Int32) (S : dk_S) : Option (Int32 × dk_S) :=
  if (40 : Int32) ≤ x4 then (some ((1 : Int32), S)) else (dk_w S 39 160 (((40 : Int32) * x1) + x4) (0 : Int32) fun S1 => k70 x1 (x4 + (1 : Int32)) S1)
set_option maxRecDepth 20000 in
theorem kb_Model_sheet_70b {p : Program} {l : Launch} {e : Env} {s : State} {m : MethodId} {args : Array Value} {below : List Frame} {meth : Method} {c : Code} {g : dk_G} {A : Nat → Prop} {Q : State → Prop} {am : Nat → Nat} {n : Nat} {res : (Int32 × dk_S)} (X : dk_X p s m args meth c b_Model_sheet 5 R_Model (some .int) g A) (hR : dk_Ri p l e rm_Model_sheet s m args below meth c g A Q 5 b_Model_sheet (some .int) (wM g am) res) {k70 : Int32 → Int32 → dk_S → Option (Int32 × dk_S)} (hk70 : ∀ (x1 : Int32) (x4 : Int32)  (S : dk_S), k70 x1 x4 S = some res → dk_J p l e rm_Model_sheet s m args below meth c g A Q 5 0 0 70 [(0, .ref (am 0)), (1, .int x1), (4, .int x4)] [] (wM g am S)) {x1 : Int32} {x4 : Int32} {S : dk_S}  (hF : B_Model_sheet_70b n k70 x1 x4 S = some res) : dk_J p l e rm_Model_sheet s m args below meth c g A Q 5 0 0 70 [(0, .ref (am 0)), (1, .int x1), (4, .int x4)] [] (wM g am S) := by
  unfold B_Model_sheet_70b at hF
  refine dk_iload (i := 4) X 2 rfl d_Model_sheet_70 ?_
  refine dk_bipush (v := 40) X (by decide) d_Model_sheet_72 ?_
  refine dk_icmp_ge (tgt := 96) X (by decide) d_Model_sheet_74 hF (fun hF => ?_) (fun hF => ?_)
  · refine dk_iconst (v := 1) X (by decide) d_Model_sheet_96 ?_
    exact dk_reti hR hF d_Model_sheet_97
  · refine dk_aload_n (k := 0) (i := 0) X 0 rfl rfl d_Model_sheet_77 ?_
    refine dk_get X q_Model 0 39 (by decide) (oM_Model g am S) rfl f_Model_96 d_Model_sheet_78 ?_
    refine dk_bipush (v := 40) X (by decide) d_Model_sheet_81 ?_
    refine dk_iload_n (k := 1) (i := 1) X 1 rfl rfl d_Model_sheet_83 ?_
    refine dk_imul X d_Model_sheet_84 ?_
    refine dk_iload (i := 4) X 2 rfl d_Model_sheet_85 ?_
    refine dk_iadd X d_Model_sheet_87 ?_
    refine dk_iconst (v := 0) X (by decide) d_Model_sheet_88 ?_
    refine dk_iast X 28 (aM_28 g am S) (sM_28 g am S _ _) d_Model_sheet_89 hF (fun S1 hF => ?_)
    refine dk_iinc (i := 4) (v := (x4 + (1 : Int32))) (lv' := [(4, .int (x4 + (1 : Int32))), (0, .ref (am 0)), (1, .int x1)]) X 2 rfl (dk_ii _ (by decide)) (by decide) rfl d_Model_sheet_90 ?_
    refine dk_goto (tgt := 70) X (by decide) d_Model_sheet_93 ?_
    exact dk_sub [1, 2, 0] rfl (hk70 x1 (x4 + (1 : Int32)) S1 hF)
def B_Model_sheet_70 (n : Nat)  : Nat → Int32 → Int32 → dk_S → Option (Int32 × dk_S)
  | 0 => fun _ _ _ => none
  | q + 1 => fun x1 x4 S => B_Model_sheet_70b n (fun x1 x4 S => B_Model_sheet_70 n  q x1 x4 S) x1 x4 S
theorem kb_Model_sheet_70 {p : Program} {l : Launch} {e : Env} {s : State} {m : MethodId} {args : Array Value} {below : List Frame} {meth : Method} {c : Code} {g : dk_G} {A : Nat → Prop} {Q : State → Prop} {am : Nat → Nat} {n : Nat} {res : (Int32 × dk_S)} (X : dk_X p s m args meth c b_Model_sheet 5 R_Model (some .int) g A) (hR : dk_Ri p l e rm_Model_sheet s m args below meth c g A Q 5 b_Model_sheet (some .int) (wM g am) res)  : ∀ (q : Nat) (x1 : Int32) (x4 : Int32)  (S : dk_S), B_Model_sheet_70 n  q x1 x4 S = some res → dk_J p l e rm_Model_sheet s m args below meth c g A Q 5 0 0 70 [(0, .ref (am 0)), (1, .int x1), (4, .int x4)] [] (wM g am S) := by
  intro q
  induction q with
  | zero => intro x1 x4  S hF; cases hF
  | succ q ih => intro x1 x4  S hF; exact kb_Model_sheet_70b (n := n) X hR ih  hF
def B_Model_sheet_66 (n : Nat)  (x1 : Int32) (u1 : Int32) (u2 : Int32) (S : dk_S) : Option (Int32 × dk_S) :=
  dk_w S 38 4 u1 u2 fun S2 => B_Model_sheet_70 n  n x1 (0 : Int32) S2
set_option maxRecDepth 20000 in
theorem kb_Model_sheet_66 {p : Program} {l : Launch} {e : Env} {s : State} {m : MethodId} {args : Array Value} {below : List Frame} {meth : Method} {c : Code} {g : dk_G} {A : Nat → Prop} {Q : State → Prop} {am : Nat → Nat} {n : Nat} {res : (Int32 × dk_S)} (X : dk_X p s m args meth c b_Model_sheet 5 R_Model (some .int) g A) (hR : dk_Ri p l e rm_Model_sheet s m args below meth c g A Q 5 b_Model_sheet (some .int) (wM g am) res)  {x1 : Int32} {u1 : Int32} {u2 : Int32} {S : dk_S}  (hF : B_Model_sheet_66 n  x1 u1 u2 S = some res) : dk_J p l e rm_Model_sheet s m args below meth c g A Q 5 0 0 66 [(0, .ref (am 0)), (1, .int x1)] [.int u2, .int u1, .ref (am 27)] (wM g am S) := by
  unfold B_Model_sheet_66 at hF
  refine dk_iast X 27 (aM_27 g am S) (sM_27 g am S _ _) d_Model_sheet_66 hF (fun S2 hF => ?_)
  refine dk_iconst (v := 0) X (by decide) d_Model_sheet_67 ?_
  refine dk_istore (i := 4) (lv' := [(4, .int (0 : Int32)), (0, .ref (am 0)), (1, .int x1)]) X (by decide) rfl d_Model_sheet_68 ?_
  exact dk_sub [1, 2, 0] rfl (kb_Model_sheet_70 (n := n) X hR  n x1 (0 : Int32) S2 hF)
def B_Model_sheet_44 (n : Nat)  (x1 : Int32) (x2 : Int32) (x3 : Int32) (S : dk_S) : Option (Int32 × dk_S) :=
  dk_w S 37 4 x1 x2 fun S3 => if ¬ x2 = (-1 : Int32) then (B_Model_sheet_66 n  x1 x1 x3 S3) else (B_Model_sheet_66 n  x1 x1 (0 : Int32) S3)
set_option maxRecDepth 20000 in
theorem kb_Model_sheet_44 {p : Program} {l : Launch} {e : Env} {s : State} {m : MethodId} {args : Array Value} {below : List Frame} {meth : Method} {c : Code} {g : dk_G} {A : Nat → Prop} {Q : State → Prop} {am : Nat → Nat} {n : Nat} {res : (Int32 × dk_S)} (X : dk_X p s m args meth c b_Model_sheet 5 R_Model (some .int) g A) (hR : dk_Ri p l e rm_Model_sheet s m args below meth c g A Q 5 b_Model_sheet (some .int) (wM g am) res)  {x1 : Int32} {x2 : Int32} {x3 : Int32} {S : dk_S}  (hF : B_Model_sheet_44 n  x1 x2 x3 S = some res) : dk_J p l e rm_Model_sheet s m args below meth c g A Q 5 0 0 44 [(0, .ref (am 0)), (1, .int x1), (2, .int x2), (3, .int x3)] [] (wM g am S) := by
  unfold B_Model_sheet_44 at hF
  refine dk_aload_n (k := 0) (i := 0) X 0 rfl rfl d_Model_sheet_44 ?_
  refine dk_get X q_Model 0 37 (by decide) (oM_Model g am S) rfl f_Model_90 d_Model_sheet_45 ?_
  refine dk_iload_n (k := 1) (i := 1) X 1 rfl rfl d_Model_sheet_48 ?_
  refine dk_iload_n (k := 2) (i := 2) X 2 rfl rfl d_Model_sheet_49 ?_
  refine dk_iast X 26 (aM_26 g am S) (sM_26 g am S _ _) d_Model_sheet_50 hF (fun S3 hF => ?_)
  refine dk_aload_n (k := 0) (i := 0) X 0 rfl rfl d_Model_sheet_51 ?_
  refine dk_get X q_Model 0 38 (by decide) (oM_Model g am S3) rfl f_Model_93 d_Model_sheet_52 ?_
  refine dk_iload_n (k := 1) (i := 1) X 1 rfl rfl d_Model_sheet_55 ?_
  refine dk_iload_n (k := 2) (i := 2) X 2 rfl rfl d_Model_sheet_56 ?_
  refine dk_iconst (v := -1) X (by decide) d_Model_sheet_57 ?_
  refine dk_icmp_ne (tgt := 65) X (by decide) d_Model_sheet_58 hF (fun hF => ?_) (fun hF => ?_)
  · refine dk_iload_n (k := 3) (i := 3) X 3 rfl rfl d_Model_sheet_65 ?_
    exact dk_sub [0, 1] rfl (kb_Model_sheet_66 (n := n) X hR   hF)
  · refine dk_iconst (v := 0) X (by decide) d_Model_sheet_61 ?_
    refine dk_goto (tgt := 66) X (by decide) d_Model_sheet_62 ?_
    exact dk_sub [0, 1] rfl (kb_Model_sheet_66 (n := n) X hR   hF)
def B_Model_sheet_32 (n : Nat)  (x1 : Int32) (x2 : Int32) (x3 : Int32) (S : dk_S) : Option (Int32 × dk_S) :=
  if x2 = (-1 : Int32) then (B_Model_sheet_44 n  x1 x2 x3 S) else (if 0 ≤ x3 then (B_Model_sheet_44 n  x1 x2 x3 S) else (some ((-14 : Int32), S)))
set_option maxRecDepth 20000 in
theorem kb_Model_sheet_32 {p : Program} {l : Launch} {e : Env} {s : State} {m : MethodId} {args : Array Value} {below : List Frame} {meth : Method} {c : Code} {g : dk_G} {A : Nat → Prop} {Q : State → Prop} {am : Nat → Nat} {n : Nat} {res : (Int32 × dk_S)} (X : dk_X p s m args meth c b_Model_sheet 5 R_Model (some .int) g A) (hR : dk_Ri p l e rm_Model_sheet s m args below meth c g A Q 5 b_Model_sheet (some .int) (wM g am) res)  {x1 : Int32} {x2 : Int32} {x3 : Int32} {S : dk_S}  (hF : B_Model_sheet_32 n  x1 x2 x3 S = some res) : dk_J p l e rm_Model_sheet s m args below meth c g A Q 5 0 0 32 [(0, .ref (am 0)), (1, .int x1), (2, .int x2), (3, .int x3)] [] (wM g am S) := by
  unfold B_Model_sheet_32 at hF
  refine dk_iload_n (k := 2) (i := 2) X 2 rfl rfl d_Model_sheet_32 ?_
  refine dk_iconst (v := -1) X (by decide) d_Model_sheet_33 ?_
  refine dk_icmp_eq (tgt := 44) X (by decide) d_Model_sheet_34 hF (fun hF => ?_) (fun hF => ?_)
  · exact (kb_Model_sheet_44 (n := n) X hR   hF)
  · refine dk_iload_n (k := 3) (i := 3) X 3 rfl rfl d_Model_sheet_37 ?_
    refine dk_if_ge (tgt := 44) X (by decide) d_Model_sheet_38 hF (fun hF => ?_) (fun hF => ?_)
    · exact (kb_Model_sheet_44 (n := n) X hR   hF)
    · refine dk_bipush (v := -14) X (by decide) d_Model_sheet_41 ?_
      exact dk_reti hR hF d_Model_sheet_43
def B_Model_sheet_0 (n : Nat)  (x1 : Int32) (x2 : Int32) (x3 : Int32) (S : dk_S) : Option (Int32 × dk_S) :=
  dk_c (F_Model_in n x1 (0 : Int32) (3 : Int32) S) fun r5 S4 => if r5 = 0 then (some ((-2 : Int32), S4)) else (dk_c (F_Model_in n x2 (-1 : Int32) (2 : Int32) S4) fun r7 S6 => if r7 = 0 then (some ((-2 : Int32), S6)) else (if x2 = (-1 : Int32) then (B_Model_sheet_32 n  x1 x2 x3 S6) else (if x3 ≤ (40 : Int32) then (B_Model_sheet_32 n  x1 x2 x3 S6) else (some ((-2 : Int32), S6)))))
set_option maxRecDepth 20000 in
theorem kb_Model_sheet_0 {p : Program} {l : Launch} {e : Env} {s : State} {m : MethodId} {args : Array Value} {below : List Frame} {meth : Method} {c : Code} {g : dk_G} {A : Nat → Prop} {Q : State → Prop} {am : Nat → Nat} {n : Nat} {res : (Int32 × dk_S)} (X : dk_X p s m args meth c b_Model_sheet 5 R_Model (some .int) g A) (hR : dk_Ri p l e rm_Model_sheet s m args below meth c g A Q 5 b_Model_sheet (some .int) (wM g am) res)  {x1 : Int32} {x2 : Int32} {x3 : Int32} {S : dk_S}  (hF : B_Model_sheet_0 n  x1 x2 x3 S = some res) : dk_J p l e rm_Model_sheet s m args below meth c g A Q 5 0 0 0 [(0, .ref (am 0)), (1, .int x1), (2, .int x2), (3, .int x3)] [] (wM g am S) := by
  unfold B_Model_sheet_0 at hF
  refine dk_iload_n (k := 1) (i := 1) X 1 rfl rfl d_Model_sheet_0 ?_
  refine dk_iconst (v := 0) X (by decide) d_Model_sheet_1 ?_
  refine dk_iconst (v := 3) X (by decide) d_Model_sheet_2 ?_
  refine dk_callSi X v_Model_in [.int x1, .int (0 : Int32), .int (3 : Int32)] (c_Model_in l g am n x1 (0 : Int32) (3 : Int32) S) m_Model_144 rfl rfl ⟨rfl, rfl, Nat.le_of_ble_eq_true rfl, Nat.le_of_ble_eq_true rfl, Nat.le_refl _, Nat.le_refl _⟩ (Nat.le_of_ble_eq_true rfl) d_Model_sheet_3 hF (fun r5 S4 hF => ?_)
  refine dk_if_eq (tgt := 29) X (by decide) d_Model_sheet_6 hF (fun hF => ?_) (fun hF => ?_)
  · refine dk_bipush (v := -2) X (by decide) d_Model_sheet_29 ?_
    exact dk_reti hR hF d_Model_sheet_31
  · refine dk_iload_n (k := 2) (i := 2) X 2 rfl rfl d_Model_sheet_9 ?_
    refine dk_iconst (v := -1) X (by decide) d_Model_sheet_10 ?_
    refine dk_iconst (v := 2) X (by decide) d_Model_sheet_11 ?_
    refine dk_callSi X v_Model_in [.int x2, .int (-1 : Int32), .int (2 : Int32)] (c_Model_in l g am n x2 (-1 : Int32) (2 : Int32) S4) m_Model_144 rfl rfl ⟨rfl, rfl, Nat.le_of_ble_eq_true rfl, Nat.le_of_ble_eq_true rfl, Nat.le_refl _, Nat.le_refl _⟩ (Nat.le_of_ble_eq_true rfl) d_Model_sheet_12 hF (fun r7 S6 hF => ?_)
    refine dk_if_eq (tgt := 29) X (by decide) d_Model_sheet_15 hF (fun hF => ?_) (fun hF => ?_)
    · refine dk_bipush (v := -2) X (by decide) d_Model_sheet_29 ?_
      exact dk_reti hR hF d_Model_sheet_31
    · refine dk_iload_n (k := 2) (i := 2) X 2 rfl rfl d_Model_sheet_18 ?_
      refine dk_iconst (v := -1) X (by decide) d_Model_sheet_19 ?_
      refine dk_icmp_eq (tgt := 32) X (by decide) d_Model_sheet_20 hF (fun hF => ?_) (fun hF => ?_)
      · exact (kb_Model_sheet_32 (n := n) X hR   hF)
      · refine dk_iload_n (k := 3) (i := 3) X 3 rfl rfl d_Model_sheet_23 ?_
        refine dk_bipush (v := 40) X (by decide) d_Model_sheet_24 ?_
        refine dk_icmp_le (tgt := 32) X (by decide) d_Model_sheet_26 hF (fun hF => ?_) (fun hF => ?_)
        · exact (kb_Model_sheet_32 (n := n) X hR   hF)
        · refine dk_bipush (v := -2) X (by decide) d_Model_sheet_29 ?_
          exact dk_reti hR hF d_Model_sheet_31
def F_Model_sheet (n : Nat) (x1 : Int32) (x2 : Int32) (x3 : Int32) (S : dk_S) : Option (Int32 × dk_S) := B_Model_sheet_0 n x1 x2 x3 S
theorem c_Model_sheet (l : Launch) (g : dk_G) (am : Nat → Nat) (n : Nat) (x1 : Int32) (x2 : Int32) (x3 : Int32)  (S : dk_S) : dk_Mi l g y_Model_sheet b_Model_sheet 5 rm_Model_sheet (some .int) [.ref (am 0), .int x1, .int x2, .int x3] (wM g am) S (F_Model_sheet n x1 x2 x3 S) := dk_enteri (by decide) (Nat.le_of_ble_eq_true rfl) (fun p e s m args below meth c A Q res hF X hR => (kb_Model_sheet_0 (n := n) X hR  hF))
abbrev b_Model_cell : ByteArray := prog_11_method_69_code
def y_Model_cell : MethodName := ⟨R_Model, "cell", "(III)I"⟩
theorem d_Model_cell_0 : decode b_Model_cell 0 = .ok (.iload_n 1, 1) := by decide +kernel
theorem d_Model_cell_1 : decode b_Model_cell 1 = .ok (.iconst 0, 1) := by decide +kernel
theorem d_Model_cell_2 : decode b_Model_cell 2 = .ok (.iconst 3, 1) := by decide +kernel
theorem d_Model_cell_3 : decode b_Model_cell 3 = .ok (.invokestatic 144, 3) := by decide +kernel
theorem d_Model_cell_6 : decode b_Model_cell 6 = .ok (.ifCond .ne 6, 3) := by decide +kernel
theorem d_Model_cell_9 : decode b_Model_cell 9 = .ok (.bipush (-2), 2) := by decide +kernel
theorem d_Model_cell_11 : decode b_Model_cell 11 = .ok (.ireturn, 1) := by decide +kernel
theorem d_Model_cell_12 : decode b_Model_cell 12 = .ok (.aload_n 0, 1) := by decide +kernel
theorem d_Model_cell_13 : decode b_Model_cell 13 = .ok (.getfield 90, 3) := by decide +kernel
theorem d_Model_cell_16 : decode b_Model_cell 16 = .ok (.iload_n 1, 1) := by decide +kernel
theorem d_Model_cell_17 : decode b_Model_cell 17 = .ok (.iaload, 1) := by decide +kernel
theorem d_Model_cell_18 : decode b_Model_cell 18 = .ok (.iconst (-1), 1) := by decide +kernel
theorem d_Model_cell_19 : decode b_Model_cell 19 = .ok (.if_icmp .ne 6, 3) := by decide +kernel
theorem d_Model_cell_22 : decode b_Model_cell 22 = .ok (.bipush (-11), 2) := by decide +kernel
theorem d_Model_cell_24 : decode b_Model_cell 24 = .ok (.ireturn, 1) := by decide +kernel
theorem d_Model_cell_25 : decode b_Model_cell 25 = .ok (.iload_n 2, 1) := by decide +kernel
theorem d_Model_cell_26 : decode b_Model_cell 26 = .ok (.iconst 0, 1) := by decide +kernel
theorem d_Model_cell_27 : decode b_Model_cell 27 = .ok (.aload_n 0, 1) := by decide +kernel
theorem d_Model_cell_28 : decode b_Model_cell 28 = .ok (.getfield 93, 3) := by decide +kernel
theorem d_Model_cell_31 : decode b_Model_cell 31 = .ok (.iload_n 1, 1) := by decide +kernel
theorem d_Model_cell_32 : decode b_Model_cell 32 = .ok (.iaload, 1) := by decide +kernel
theorem d_Model_cell_33 : decode b_Model_cell 33 = .ok (.iconst 1, 1) := by decide +kernel
theorem d_Model_cell_34 : decode b_Model_cell 34 = .ok (.isub, 1) := by decide +kernel
theorem d_Model_cell_35 : decode b_Model_cell 35 = .ok (.invokestatic 144, 3) := by decide +kernel
theorem d_Model_cell_38 : decode b_Model_cell 38 = .ok (.ifCond .ne 6, 3) := by decide +kernel
theorem d_Model_cell_41 : decode b_Model_cell 41 = .ok (.bipush (-12), 2) := by decide +kernel
theorem d_Model_cell_43 : decode b_Model_cell 43 = .ok (.ireturn, 1) := by decide +kernel
theorem d_Model_cell_44 : decode b_Model_cell 44 = .ok (.aload_n 0, 1) := by decide +kernel
theorem d_Model_cell_45 : decode b_Model_cell 45 = .ok (.getfield 96, 3) := by decide +kernel
theorem d_Model_cell_48 : decode b_Model_cell 48 = .ok (.bipush 40, 2) := by decide +kernel
theorem d_Model_cell_50 : decode b_Model_cell 50 = .ok (.iload_n 1, 1) := by decide +kernel
theorem d_Model_cell_51 : decode b_Model_cell 51 = .ok (.imul, 1) := by decide +kernel
theorem d_Model_cell_52 : decode b_Model_cell 52 = .ok (.iload_n 2, 1) := by decide +kernel
theorem d_Model_cell_53 : decode b_Model_cell 53 = .ok (.iadd, 1) := by decide +kernel
theorem d_Model_cell_54 : decode b_Model_cell 54 = .ok (.aload_n 0, 1) := by decide +kernel
theorem d_Model_cell_55 : decode b_Model_cell 55 = .ok (.getfield 90, 3) := by decide +kernel
theorem d_Model_cell_58 : decode b_Model_cell 58 = .ok (.iload_n 1, 1) := by decide +kernel
theorem d_Model_cell_59 : decode b_Model_cell 59 = .ok (.iaload, 1) := by decide +kernel
theorem d_Model_cell_60 : decode b_Model_cell 60 = .ok (.ifCond .ne 8, 3) := by decide +kernel
theorem d_Model_cell_63 : decode b_Model_cell 63 = .ok (.iload_n 3, 1) := by decide +kernel
theorem d_Model_cell_64 : decode b_Model_cell 64 = .ok (.i2b, 1) := by decide +kernel
theorem d_Model_cell_65 : decode b_Model_cell 65 = .ok (.goto 19, 3) := by decide +kernel
theorem d_Model_cell_68 : decode b_Model_cell 68 = .ok (.aload_n 0, 1) := by decide +kernel
theorem d_Model_cell_69 : decode b_Model_cell 69 = .ok (.getfield 90, 3) := by decide +kernel
theorem d_Model_cell_72 : decode b_Model_cell 72 = .ok (.iload_n 1, 1) := by decide +kernel
theorem d_Model_cell_73 : decode b_Model_cell 73 = .ok (.iaload, 1) := by decide +kernel
theorem d_Model_cell_74 : decode b_Model_cell 74 = .ok (.iconst 1, 1) := by decide +kernel
theorem d_Model_cell_75 : decode b_Model_cell 75 = .ok (.if_icmp .ne 8, 3) := by decide +kernel
theorem d_Model_cell_78 : decode b_Model_cell 78 = .ok (.iload_n 3, 1) := by decide +kernel
theorem d_Model_cell_79 : decode b_Model_cell 79 = .ok (.i2s, 1) := by decide +kernel
theorem d_Model_cell_80 : decode b_Model_cell 80 = .ok (.goto 4, 3) := by decide +kernel
theorem d_Model_cell_83 : decode b_Model_cell 83 = .ok (.iload_n 3, 1) := by decide +kernel
theorem d_Model_cell_84 : decode b_Model_cell 84 = .ok (.iastore, 1) := by decide +kernel
theorem d_Model_cell_85 : decode b_Model_cell 85 = .ok (.iconst 1, 1) := by decide +kernel
theorem d_Model_cell_86 : decode b_Model_cell 86 = .ok (.ireturn, 1) := by decide +kernel
theorem v_Model_cell : dk_Yv y_Model_cell b_Model_cell 4 (some .int) 3 := ⟨dk_in (List.mem_of_getElem? (i := 1378) (by decide +kernel)) rfl, dk_in (List.mem_of_getElem? (i := 1379) (by decide +kernel)) rfl, dk_in (List.mem_of_getElem? (i := 75) (by decide +kernel)) rfl, dk_in (List.mem_of_getElem? (i := 1380) (by decide +kernel)) rfl, by decide +kernel, by decide +kernel, by decide +kernel⟩
abbrev rm_Model_cell : Room := { frames := 1, cells := 0, slots := 0, locals := 22 }
def B_Model_cell_84 (n : Nat)  (u1 : Int32) (u2 : Int32) (S : dk_S) : Option (Int32 × dk_S) :=
  dk_w S 39 160 u1 u2 fun S1 => some ((1 : Int32), S1)
set_option maxRecDepth 20000 in
theorem kb_Model_cell_84 {p : Program} {l : Launch} {e : Env} {s : State} {m : MethodId} {args : Array Value} {below : List Frame} {meth : Method} {c : Code} {g : dk_G} {A : Nat → Prop} {Q : State → Prop} {am : Nat → Nat} {n : Nat} {res : (Int32 × dk_S)} (X : dk_X p s m args meth c b_Model_cell 4 R_Model (some .int) g A) (hR : dk_Ri p l e rm_Model_cell s m args below meth c g A Q 4 b_Model_cell (some .int) (wM g am) res)  {u1 : Int32} {u2 : Int32} {S : dk_S}  (hF : B_Model_cell_84 n  u1 u2 S = some res) : dk_J p l e rm_Model_cell s m args below meth c g A Q 4 0 0 84 [] [.int u2, .int u1, .ref (am 28)] (wM g am S) := by
  unfold B_Model_cell_84 at hF
  refine dk_iast X 28 (aM_28 g am S) (sM_28 g am S _ _) d_Model_cell_84 hF (fun S1 hF => ?_)
  refine dk_iconst (v := 1) X (by decide) d_Model_cell_85 ?_
  exact dk_reti hR hF d_Model_cell_86
def B_Model_cell_0 (n : Nat)  (x1 : Int32) (x2 : Int32) (x3 : Int32) (S : dk_S) : Option (Int32 × dk_S) :=
  dk_c (F_Model_in n x1 (0 : Int32) (3 : Int32) S) fun r3 S2 => if ¬ r3 = 0 then (dk_r 4 (S2 37) x1 fun v4 => if ¬ v4 = (-1 : Int32) then (dk_r 4 (S2 38) x1 fun v5 => dk_c (F_Model_in n x2 (0 : Int32) (v5 - (1 : Int32)) S2) fun r7 S6 => if ¬ r7 = 0 then (dk_r 4 (S6 37) x1 fun v8 => if ¬ v8 = 0 then (dk_r 4 (S6 37) x1 fun v9 => if ¬ v9 = (1 : Int32) then (B_Model_cell_84 n  (((40 : Int32) * x1) + x2) x3 S6) else (B_Model_cell_84 n  (((40 : Int32) * x1) + x2) x3.toInt16.toInt32 S6)) else (B_Model_cell_84 n  (((40 : Int32) * x1) + x2) x3.toInt8.toInt32 S6)) else (some ((-12 : Int32), S6))) else (some ((-11 : Int32), S2))) else (some ((-2 : Int32), S2))
set_option maxRecDepth 20000 in
theorem kb_Model_cell_0 {p : Program} {l : Launch} {e : Env} {s : State} {m : MethodId} {args : Array Value} {below : List Frame} {meth : Method} {c : Code} {g : dk_G} {A : Nat → Prop} {Q : State → Prop} {am : Nat → Nat} {n : Nat} {res : (Int32 × dk_S)} (X : dk_X p s m args meth c b_Model_cell 4 R_Model (some .int) g A) (hR : dk_Ri p l e rm_Model_cell s m args below meth c g A Q 4 b_Model_cell (some .int) (wM g am) res)  {x1 : Int32} {x2 : Int32} {x3 : Int32} {S : dk_S}  (hF : B_Model_cell_0 n  x1 x2 x3 S = some res) : dk_J p l e rm_Model_cell s m args below meth c g A Q 4 0 0 0 [(0, .ref (am 0)), (1, .int x1), (2, .int x2), (3, .int x3)] [] (wM g am S) := by
  unfold B_Model_cell_0 at hF
  refine dk_iload_n (k := 1) (i := 1) X 1 rfl rfl d_Model_cell_0 ?_
  refine dk_iconst (v := 0) X (by decide) d_Model_cell_1 ?_
  refine dk_iconst (v := 3) X (by decide) d_Model_cell_2 ?_
  refine dk_callSi X v_Model_in [.int x1, .int (0 : Int32), .int (3 : Int32)] (c_Model_in l g am n x1 (0 : Int32) (3 : Int32) S) m_Model_144 rfl rfl ⟨rfl, rfl, Nat.le_of_ble_eq_true rfl, Nat.le_of_ble_eq_true rfl, Nat.le_refl _, Nat.le_refl _⟩ (Nat.le_of_ble_eq_true rfl) d_Model_cell_3 hF (fun r3 S2 hF => ?_)
  refine dk_if_ne (tgt := 12) X (by decide) d_Model_cell_6 hF (fun hF => ?_) (fun hF => ?_)
  · refine dk_aload_n (k := 0) (i := 0) X 0 rfl rfl d_Model_cell_12 ?_
    refine dk_get X q_Model 0 37 (by decide) (oM_Model g am S2) rfl f_Model_90 d_Model_cell_13 ?_
    refine dk_iload_n (k := 1) (i := 1) X 1 rfl rfl d_Model_cell_16 ?_
    refine dk_iald X 26 (aM_26 g am S2) d_Model_cell_17 hF (fun v4 hF => ?_)
    refine dk_iconst (v := -1) X (by decide) d_Model_cell_18 ?_
    refine dk_icmp_ne (tgt := 25) X (by decide) d_Model_cell_19 hF (fun hF => ?_) (fun hF => ?_)
    · refine dk_iload_n (k := 2) (i := 2) X 2 rfl rfl d_Model_cell_25 ?_
      refine dk_iconst (v := 0) X (by decide) d_Model_cell_26 ?_
      refine dk_aload_n (k := 0) (i := 0) X 0 rfl rfl d_Model_cell_27 ?_
      refine dk_get X q_Model 0 38 (by decide) (oM_Model g am S2) rfl f_Model_93 d_Model_cell_28 ?_
      refine dk_iload_n (k := 1) (i := 1) X 1 rfl rfl d_Model_cell_31 ?_
      refine dk_iald X 27 (aM_27 g am S2) d_Model_cell_32 hF (fun v5 hF => ?_)
      refine dk_iconst (v := 1) X (by decide) d_Model_cell_33 ?_
      refine dk_isub X d_Model_cell_34 ?_
      refine dk_callSi X v_Model_in [.int x2, .int (0 : Int32), .int (v5 - (1 : Int32))] (c_Model_in l g am n x2 (0 : Int32) (v5 - (1 : Int32)) S2) m_Model_144 rfl rfl ⟨rfl, rfl, Nat.le_of_ble_eq_true rfl, Nat.le_of_ble_eq_true rfl, Nat.le_refl _, Nat.le_refl _⟩ (Nat.le_of_ble_eq_true rfl) d_Model_cell_35 hF (fun r7 S6 hF => ?_)
      refine dk_if_ne (tgt := 44) X (by decide) d_Model_cell_38 hF (fun hF => ?_) (fun hF => ?_)
      · refine dk_aload_n (k := 0) (i := 0) X 0 rfl rfl d_Model_cell_44 ?_
        refine dk_get X q_Model 0 39 (by decide) (oM_Model g am S6) rfl f_Model_96 d_Model_cell_45 ?_
        refine dk_bipush (v := 40) X (by decide) d_Model_cell_48 ?_
        refine dk_iload_n (k := 1) (i := 1) X 1 rfl rfl d_Model_cell_50 ?_
        refine dk_imul X d_Model_cell_51 ?_
        refine dk_iload_n (k := 2) (i := 2) X 2 rfl rfl d_Model_cell_52 ?_
        refine dk_iadd X d_Model_cell_53 ?_
        refine dk_aload_n (k := 0) (i := 0) X 0 rfl rfl d_Model_cell_54 ?_
        refine dk_get X q_Model 0 37 (by decide) (oM_Model g am S6) rfl f_Model_90 d_Model_cell_55 ?_
        refine dk_iload_n (k := 1) (i := 1) X 1 rfl rfl d_Model_cell_58 ?_
        refine dk_iald X 26 (aM_26 g am S6) d_Model_cell_59 hF (fun v8 hF => ?_)
        refine dk_if_ne (tgt := 68) X (by decide) d_Model_cell_60 hF (fun hF => ?_) (fun hF => ?_)
        · refine dk_aload_n (k := 0) (i := 0) X 0 rfl rfl d_Model_cell_68 ?_
          refine dk_get X q_Model 0 37 (by decide) (oM_Model g am S6) rfl f_Model_90 d_Model_cell_69 ?_
          refine dk_iload_n (k := 1) (i := 1) X 1 rfl rfl d_Model_cell_72 ?_
          refine dk_iald X 26 (aM_26 g am S6) d_Model_cell_73 hF (fun v9 hF => ?_)
          refine dk_iconst (v := 1) X (by decide) d_Model_cell_74 ?_
          refine dk_icmp_ne (tgt := 83) X (by decide) d_Model_cell_75 hF (fun hF => ?_) (fun hF => ?_)
          · refine dk_iload_n (k := 3) (i := 3) X 3 rfl rfl d_Model_cell_83 ?_
            exact dk_sub [] rfl (kb_Model_cell_84 (n := n) X hR   hF)
          · refine dk_iload_n (k := 3) (i := 3) X 3 rfl rfl d_Model_cell_78 ?_
            refine dk_i2s X d_Model_cell_79 ?_
            refine dk_goto (tgt := 84) X (by decide) d_Model_cell_80 ?_
            exact dk_sub [] rfl (kb_Model_cell_84 (n := n) X hR   hF)
        · refine dk_iload_n (k := 3) (i := 3) X 3 rfl rfl d_Model_cell_63 ?_
          refine dk_i2b X d_Model_cell_64 ?_
          refine dk_goto (tgt := 84) X (by decide) d_Model_cell_65 ?_
          exact dk_sub [] rfl (kb_Model_cell_84 (n := n) X hR   hF)
      · refine dk_bipush (v := -12) X (by decide) d_Model_cell_41 ?_
        exact dk_reti hR hF d_Model_cell_43
    · refine dk_bipush (v := -11) X (by decide) d_Model_cell_22 ?_
      exact dk_reti hR hF d_Model_cell_24
  · refine dk_bipush (v := -2) X (by decide) d_Model_cell_9 ?_
    exact dk_reti hR hF d_Model_cell_11
def F_Model_cell (n : Nat) (x1 : Int32) (x2 : Int32) (x3 : Int32) (S : dk_S) : Option (Int32 × dk_S) := B_Model_cell_0 n x1 x2 x3 S
theorem c_Model_cell (l : Launch) (g : dk_G) (am : Nat → Nat) (n : Nat) (x1 : Int32) (x2 : Int32) (x3 : Int32)  (S : dk_S) : dk_Mi l g y_Model_cell b_Model_cell 4 rm_Model_cell (some .int) [.ref (am 0), .int x1, .int x2, .int x3] (wM g am) S (F_Model_cell n x1 x2 x3 S) := dk_enteri (by decide) (Nat.le_of_ble_eq_true rfl) (fun p e s m args below meth c A Q res hF X hR => (kb_Model_cell_0 (n := n) X hR  hF))
