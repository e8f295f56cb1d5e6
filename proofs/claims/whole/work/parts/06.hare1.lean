abbrev b_Hare_hangs : ByteArray := prog_1_method_21_code
def y_Hare_hangs : MethodName := ⟨R_Hare, "hangs", "(I)I"⟩
theorem d_Hare_hangs_0 : decode b_Hare_hangs 0 = .ok (.aload_n 0, 1) := by decide +kernel
theorem d_Hare_hangs_1 : decode b_Hare_hangs 1 = .ok (.getfield 10, 3) := by decide +kernel
theorem d_Hare_hangs_4 : decode b_Hare_hangs 4 = .ok (.iload_n 1, 1) := by decide +kernel
theorem d_Hare_hangs_5 : decode b_Hare_hangs 5 = .ok (.invokevirtual 97, 3) := by decide +kernel
theorem d_Hare_hangs_8 : decode b_Hare_hangs 8 = .ok (.ifCond .ne 6, 3) := by decide +kernel
theorem d_Hare_hangs_11 : decode b_Hare_hangs 11 = .ok (.bipush (-5), 2) := by decide +kernel
theorem d_Hare_hangs_13 : decode b_Hare_hangs 13 = .ok (.ireturn, 1) := by decide +kernel
theorem d_Hare_hangs_14 : decode b_Hare_hangs 14 = .ok (.aload_n 0, 1) := by decide +kernel
theorem d_Hare_hangs_15 : decode b_Hare_hangs 15 = .ok (.getfield 19, 3) := by decide +kernel
theorem d_Hare_hangs_18 : decode b_Hare_hangs 18 = .ok (.invokevirtual 120, 3) := by decide +kernel
theorem d_Hare_hangs_21 : decode b_Hare_hangs 21 = .ok (.istore_n 2, 1) := by decide +kernel
theorem d_Hare_hangs_22 : decode b_Hare_hangs 22 = .ok (.aload_n 0, 1) := by decide +kernel
theorem d_Hare_hangs_23 : decode b_Hare_hangs 23 = .ok (.getfield 49, 3) := by decide +kernel
theorem d_Hare_hangs_26 : decode b_Hare_hangs 26 = .ok (.iload_n 1, 1) := by decide +kernel
theorem d_Hare_hangs_27 : decode b_Hare_hangs 27 = .ok (.iconst 0, 1) := by decide +kernel
theorem d_Hare_hangs_28 : decode b_Hare_hangs 28 = .ok (.invokevirtual 236, 3) := by decide +kernel
theorem d_Hare_hangs_31 : decode b_Hare_hangs 31 = .ok (.istore_n 3, 1) := by decide +kernel
theorem d_Hare_hangs_32 : decode b_Hare_hangs 32 = .ok (.iconst 0, 1) := by decide +kernel
theorem d_Hare_hangs_33 : decode b_Hare_hangs 33 = .ok (.istore 4, 2) := by decide +kernel
theorem d_Hare_hangs_35 : decode b_Hare_hangs 35 = .ok (.iconst 0, 1) := by decide +kernel
theorem d_Hare_hangs_36 : decode b_Hare_hangs 36 = .ok (.istore 5, 2) := by decide +kernel
theorem d_Hare_hangs_38 : decode b_Hare_hangs 38 = .ok (.iload 5, 2) := by decide +kernel
theorem d_Hare_hangs_40 : decode b_Hare_hangs 40 = .ok (.iload_n 2, 1) := by decide +kernel
theorem d_Hare_hangs_41 : decode b_Hare_hangs 41 = .ok (.if_icmp .ge 34, 3) := by decide +kernel
theorem d_Hare_hangs_44 : decode b_Hare_hangs 44 = .ok (.aload_n 0, 1) := by decide +kernel
theorem d_Hare_hangs_45 : decode b_Hare_hangs 45 = .ok (.getfield 49, 3) := by decide +kernel
theorem d_Hare_hangs_48 : decode b_Hare_hangs 48 = .ok (.iload_n 1, 1) := by decide +kernel
theorem d_Hare_hangs_49 : decode b_Hare_hangs 49 = .ok (.iconst 1, 1) := by decide +kernel
theorem d_Hare_hangs_50 : decode b_Hare_hangs 50 = .ok (.iload 5, 2) := by decide +kernel
theorem d_Hare_hangs_52 : decode b_Hare_hangs 52 = .ok (.ishl, 1) := by decide +kernel
theorem d_Hare_hangs_53 : decode b_Hare_hangs 53 = .ok (.invokevirtual 236, 3) := by decide +kernel
theorem d_Hare_hangs_56 : decode b_Hare_hangs 56 = .ok (.iload_n 3, 1) := by decide +kernel
theorem d_Hare_hangs_57 : decode b_Hare_hangs 57 = .ok (.if_icmp .eq 12, 3) := by decide +kernel
theorem d_Hare_hangs_60 : decode b_Hare_hangs 60 = .ok (.iload 4, 2) := by decide +kernel
theorem d_Hare_hangs_62 : decode b_Hare_hangs 62 = .ok (.iconst 1, 1) := by decide +kernel
theorem d_Hare_hangs_63 : decode b_Hare_hangs 63 = .ok (.iload 5, 2) := by decide +kernel
theorem d_Hare_hangs_65 : decode b_Hare_hangs 65 = .ok (.ishl, 1) := by decide +kernel
theorem d_Hare_hangs_66 : decode b_Hare_hangs 66 = .ok (.ior, 1) := by decide +kernel
theorem d_Hare_hangs_67 : decode b_Hare_hangs 67 = .ok (.istore 4, 2) := by decide +kernel
theorem d_Hare_hangs_69 : decode b_Hare_hangs 69 = .ok (.iinc 5 1, 3) := by decide +kernel
theorem d_Hare_hangs_72 : decode b_Hare_hangs 72 = .ok (.goto (-34), 3) := by decide +kernel
theorem d_Hare_hangs_75 : decode b_Hare_hangs 75 = .ok (.iload 4, 2) := by decide +kernel
theorem d_Hare_hangs_77 : decode b_Hare_hangs 77 = .ok (.ireturn, 1) := by decide +kernel
theorem v_Hare_hangs : dk_Yv y_Hare_hangs b_Hare_hangs 6 (some .int) 1 := ⟨dk_in (List.mem_of_getElem? (i := 834) (by decide +kernel)) rfl, dk_in (List.mem_of_getElem? (i := 835) (by decide +kernel)) rfl, dk_in (List.mem_of_getElem? (i := 66) (by decide +kernel)) rfl, dk_in (List.mem_of_getElem? (i := 836) (by decide +kernel)) rfl, by decide +kernel, by decide +kernel, by decide +kernel⟩
abbrev rm_Hare_hangs : Room := { frames := 6, cells := 0, slots := 0, locals := 142 }
def B_Hare_hangs_69 (n T : Nat) (k38 : Int32 → Int32 → Int32 → Int32 → Int32 → dk_S → Option (Int32 × dk_S)) (x1 : Int32) (x2 : Int32) (x3 : Int32) (x4 : Int32) (x5 : Int32) (S : dk_S) : Option (Int32 × dk_S) :=
  k38 x1 x2 x3 x4 (x5 + (1 : Int32)) S
set_option maxRecDepth 20000 in
theorem kb_Hare_hangs_69 {p : Program} {l : Launch} {e : Env} {s : State} {m : MethodId} {args : Array Value} {below : List Frame} {meth : Method} {c : Code} {g : dk_G} {A : Nat → Prop} {Q : State → Prop} {ad : Nat → Nat} {T : Nat} {n : Nat} {res : (Int32 × dk_S)} (X : dk_X p s m args meth c b_Hare_hangs 6 R_Hare (some .int) g A) (hR : dk_Ri p l e rm_Hare_hangs s m args below meth c g A Q 6 b_Hare_hangs (some .int) (wC g ad T) res) {k38 : Int32 → Int32 → Int32 → Int32 → Int32 → dk_S → Option (Int32 × dk_S)} (hk38 : ∀ (x1 : Int32) (x2 : Int32) (x3 : Int32) (x4 : Int32) (x5 : Int32)  (S : dk_S), k38 x1 x2 x3 x4 x5 S = some res → dk_J p l e rm_Hare_hangs s m args below meth c g A Q 6 0 0 38 [(0, .ref (ad 0)), (1, .int x1), (2, .int x2), (3, .int x3), (4, .int x4), (5, .int x5)] [] (wC g ad T S)) {x1 : Int32} {x2 : Int32} {x3 : Int32} {x4 : Int32} {x5 : Int32} {S : dk_S}  (hF : B_Hare_hangs_69 n T k38 x1 x2 x3 x4 x5 S = some res) : dk_J p l e rm_Hare_hangs s m args below meth c g A Q 6 0 0 69 [(0, .ref (ad 0)), (1, .int x1), (2, .int x2), (3, .int x3), (4, .int x4), (5, .int x5)] [] (wC g ad T S) := by
  unfold B_Hare_hangs_69 at hF
  refine dk_iinc (i := 5) (v := (x5 + (1 : Int32))) (lv' := [(5, .int (x5 + (1 : Int32))), (0, .ref (ad 0)), (1, .int x1), (2, .int x2), (3, .int x3), (4, .int x4)]) X 5 rfl (dk_ii _ (by decide)) (by decide) rfl d_Hare_hangs_69 ?_
  refine dk_goto (tgt := 38) X (by decide) d_Hare_hangs_72 ?_
  exact dk_sub [1, 2, 3, 4, 5, 0] rfl (hk38 x1 x2 x3 x4 (x5 + (1 : Int32)) S hF)
def B_Hare_hangs_38b (n T : Nat) (k38 : Int32 → Int32 → Int32 → Int32 → Int32 → dk_S → Option (Int32 × dk_S)) (x1 : Int32) (x2 : Int32) (x3 : Int32) (x4 : Int32) (x5 : Int32) (S : dk_S) : Option (Int32 × dk_S) :=
  if x2 ≤ x5 then (some (x4, S)) else (dk_c (F_Scene_possessorWithout n T x1 ((1 : Int32) <<< (x5 &&& 31)) S) fun r2 S1 => if r2 = x3 then (B_Hare_hangs_69 n T k38 x1 x2 x3 x4 x5 S1) else (B_Hare_hangs_69 n T k38 x1 x2 x3 (x4 ||| ((1 : Int32) <<< (x5 &&& 31))) x5 S1))
set_option maxRecDepth 20000 in
theorem kb_Hare_hangs_38b {p : Program} {l : Launch} {e : Env} {s : State} {m : MethodId} {args : Array Value} {below : List Frame} {meth : Method} {c : Code} {g : dk_G} {A : Nat → Prop} {Q : State → Prop} {ad : Nat → Nat} {T : Nat} {n : Nat} {res : (Int32 × dk_S)} (X : dk_X p s m args meth c b_Hare_hangs 6 R_Hare (some .int) g A) (hR : dk_Ri p l e rm_Hare_hangs s m args below meth c g A Q 6 b_Hare_hangs (some .int) (wC g ad T) res) {k38 : Int32 → Int32 → Int32 → Int32 → Int32 → dk_S → Option (Int32 × dk_S)} (hk38 : ∀ (x1 : Int32) (x2 : Int32) (x3 : Int32) (x4 : Int32) (x5 : Int32)  (S : dk_S), k38 x1 x2 x3 x4 x5 S = some res → dk_J p l e rm_Hare_hangs s m args below meth c g A Q 6 0 0 38 [(0, .ref (ad 0)), (1, .int x1), (2, .int x2), (3, .int x3), (4, .int x4), (5, .int x5)] [] (wC g ad T S)) {x1 : Int32} {x2 : Int32} {x3 : Int32} {x4 : Int32} {x5 : Int32} {S : dk_S}  (hF : B_Hare_hangs_38b n T k38 x1 x2 x3 x4 x5 S = some res) : dk_J p l e rm_Hare_hangs s m args below meth c g A Q 6 0 0 38 [(0, .ref (ad 0)), (1, .int x1), (2, .int x2), (3, .int x3), (4, .int x4), (5, .int x5)] [] (wC g ad T S) := by
  unfold B_Hare_hangs_38b at hF
  refine dk_iload (i := 5) X 5 rfl d_Hare_hangs_38 ?_
  refine dk_iload_n (k := 2) (i := 2) X 2 rfl rfl d_Hare_hangs_40 ?_
  refine dk_icmp_ge (tgt := 75) X (by decide) d_Hare_hangs_41 hF (fun hF => ?_) (fun hF => ?_)
  · refine dk_iload (i := 4) X 4 rfl d_Hare_hangs_75 ?_
    exact dk_reti hR hF d_Hare_hangs_77
  · refine dk_aload_n (k := 0) (i := 0) X 0 rfl rfl d_Hare_hangs_44 ?_
    refine dk_get X q_Hare 0 4 (by decide) (oC_Hare g ad T S) rfl f_Hare_49 d_Hare_hangs_45 ?_
    refine dk_iload_n (k := 1) (i := 1) X 1 rfl rfl d_Hare_hangs_48 ?_
    refine dk_iconst (v := 1) X (by decide) d_Hare_hangs_49 ?_
    refine dk_iload (i := 5) X 5 rfl d_Hare_hangs_50 ?_
    refine dk_ishl X d_Hare_hangs_52 ?_
    refine dk_callVi X v_Scene_possessorWithout [.int x1, .int ((1 : Int32) <<< (x5 &&& 31))] (c_Scene_possessorWithout l g ad T n x1 ((1 : Int32) <<< (x5 &&& 31)) S) 18 (oC_Scene g ad T S) rfl rfl m_Hare_236 rfl rfl ⟨rfl, rfl, Nat.le_of_ble_eq_true rfl, Nat.le_of_ble_eq_true rfl, Nat.le_refl _, Nat.le_refl _⟩ (Nat.le_of_ble_eq_true rfl) d_Hare_hangs_53 hF (fun r2 S1 hF => ?_)
    refine dk_iload_n (k := 3) (i := 3) X 3 rfl rfl d_Hare_hangs_56 ?_
    refine dk_icmp_eq (tgt := 69) X (by decide) d_Hare_hangs_57 hF (fun hF => ?_) (fun hF => ?_)
    · exact (kb_Hare_hangs_69 (n := n) X hR hk38  hF)
    · refine dk_iload (i := 4) X 4 rfl d_Hare_hangs_60 ?_
      refine dk_iconst (v := 1) X (by decide) d_Hare_hangs_62 ?_
      refine dk_iload (i := 5) X 5 rfl d_Hare_hangs_63 ?_
      refine dk_ishl X d_Hare_hangs_65 ?_
      refine dk_ior X d_Hare_hangs_66 ?_
      refine dk_istore (i := 4) (lv' := [(4, .int (x4 ||| ((1 : Int32) <<< (x5 &&& 31)))), (0, .ref (ad 0)), (1, .int x1), (2, .int x2), (3, .int x3), (5, .int x5)]) X (by decide) rfl d_Hare_hangs_67 ?_
      exact dk_sub [1, 2, 3, 4, 0, 5] rfl (kb_Hare_hangs_69 (n := n) X hR hk38  hF)
def B_Hare_hangs_38 (n T : Nat)  : Nat → Int32 → Int32 → Int32 → Int32 → Int32 → dk_S → Option (Int32 × dk_S)
  | 0 => fun _ _ _ _ _ _ => none
  | q + 1 => fun x1 x2 x3 x4 x5 S => B_Hare_hangs_38b n T (fun x1 x2 x3 x4 x5 S => B_Hare_hangs_38 n T  q x1 x2 x3 x4 x5 S) x1 x2 x3 x4 x5 S
theorem kb_Hare_hangs_38 {p : Program} {l : Launch} {e : Env} {s : State} {m : MethodId} {args : Array Value} {below : List Frame} {meth : Method} {c : Code} {g : dk_G} {A : Nat → Prop} {Q : State → Prop} {ad : Nat → Nat} {T : Nat} {n : Nat} {res : (Int32 × dk_S)} (X : dk_X p s m args meth c b_Hare_hangs 6 R_Hare (some .int) g A) (hR : dk_Ri p l e rm_Hare_hangs s m args below meth c g A Q 6 b_Hare_hangs (some .int) (wC g ad T) res)  : ∀ (q : Nat) (x1 : Int32) (x2 : Int32) (x3 : Int32) (x4 : Int32) (x5 : Int32)  (S : dk_S), B_Hare_hangs_38 n T  q x1 x2 x3 x4 x5 S = some res → dk_J p l e rm_Hare_hangs s m args below meth c g A Q 6 0 0 38 [(0, .ref (ad 0)), (1, .int x1), (2, .int x2), (3, .int x3), (4, .int x4), (5, .int x5)] [] (wC g ad T S) := by
  intro q
  induction q with
  | zero => intro x1 x2 x3 x4 x5  S hF; cases hF
  | succ q ih => intro x1 x2 x3 x4 x5  S hF; exact kb_Hare_hangs_38b (n := n) X hR ih  hF
def B_Hare_hangs_0 (n T : Nat)  (x1 : Int32) (S : dk_S) : Option (Int32 × dk_S) :=
  dk_c (F_Land_hasBeast n T x1 S) fun r4 S3 => if ¬ r4 = 0 then (dk_c (F_Diary_countUnsure n T S3) fun r6 S5 => dk_c (F_Scene_possessorWithout n T x1 (0 : Int32) S5) fun r8 S7 => B_Hare_hangs_38 n T  n x1 r6 r8 (0 : Int32) (0 : Int32) S7) else (some ((-5 : Int32), S3))
set_option maxRecDepth 20000 in
theorem kb_Hare_hangs_0 {p : Program} {l : Launch} {e : Env} {s : State} {m : MethodId} {args : Array Value} {below : List Frame} {meth : Method} {c : Code} {g : dk_G} {A : Nat → Prop} {Q : State → Prop} {ad : Nat → Nat} {T : Nat} {n : Nat} {res : (Int32 × dk_S)} (X : dk_X p s m args meth c b_Hare_hangs 6 R_Hare (some .int) g A) (hR : dk_Ri p l e rm_Hare_hangs s m args below meth c g A Q 6 b_Hare_hangs (some .int) (wC g ad T) res)  {x1 : Int32} {S : dk_S}  (hF : B_Hare_hangs_0 n T  x1 S = some res) : dk_J p l e rm_Hare_hangs s m args below meth c g A Q 6 0 0 0 [(0, .ref (ad 0)), (1, .int x1)] [] (wC g ad T S) := by
  unfold B_Hare_hangs_0 at hF
  refine dk_aload_n (k := 0) (i := 0) X 0 rfl rfl d_Hare_hangs_0 ?_
  refine dk_get X q_Hare 0 0 (by decide) (oC_Hare g ad T S) rfl f_Hare_10 d_Hare_hangs_1 ?_
  refine dk_iload_n (k := 1) (i := 1) X 1 rfl rfl d_Hare_hangs_4 ?_
  refine dk_callVi X v_Land_hasBeast [.int x1] (c_Land_hasBeast l g ad T n x1 S) 1 (oC_Land g ad T S) rfl rfl m_Hare_97 rfl rfl ⟨rfl, rfl, Nat.le_of_ble_eq_true rfl, Nat.le_of_ble_eq_true rfl, Nat.le_refl _, Nat.le_refl _⟩ (Nat.le_of_ble_eq_true rfl) d_Hare_hangs_5 hF (fun r4 S3 hF => ?_)
  refine dk_if_ne (tgt := 14) X (by decide) d_Hare_hangs_8 hF (fun hF => ?_) (fun hF => ?_)
  · refine dk_aload_n (k := 0) (i := 0) X 0 rfl rfl d_Hare_hangs_14 ?_
    refine dk_get X q_Hare 0 1 (by decide) (oC_Hare g ad T S3) rfl f_Hare_19 d_Hare_hangs_15 ?_
    refine dk_callVi X v_Diary_countUnsure [] (c_Diary_countUnsure l g ad T n S3) 5 (oC_Diary g ad T S3) rfl rfl m_Hare_120 rfl rfl ⟨rfl, rfl, Nat.le_of_ble_eq_true rfl, Nat.le_of_ble_eq_true rfl, Nat.le_refl _, Nat.le_refl _⟩ (Nat.le_of_ble_eq_true rfl) d_Hare_hangs_18 hF (fun r6 S5 hF => ?_)
    refine dk_istore_n (k := 2) (i := 2) (lv' := [(2, .int r6), (0, .ref (ad 0)), (1, .int x1)]) X rfl (by decide) rfl d_Hare_hangs_21 ?_
    refine dk_aload_n (k := 0) (i := 0) X 1 rfl rfl d_Hare_hangs_22 ?_
    refine dk_get X q_Hare 0 4 (by decide) (oC_Hare g ad T S5) rfl f_Hare_49 d_Hare_hangs_23 ?_
    refine dk_iload_n (k := 1) (i := 1) X 2 rfl rfl d_Hare_hangs_26 ?_
    refine dk_iconst (v := 0) X (by decide) d_Hare_hangs_27 ?_
    refine dk_callVi X v_Scene_possessorWithout [.int x1, .int (0 : Int32)] (c_Scene_possessorWithout l g ad T n x1 (0 : Int32) S5) 18 (oC_Scene g ad T S5) rfl rfl m_Hare_236 rfl rfl ⟨rfl, rfl, Nat.le_of_ble_eq_true rfl, Nat.le_of_ble_eq_true rfl, Nat.le_refl _, Nat.le_refl _⟩ (Nat.le_of_ble_eq_true rfl) d_Hare_hangs_28 hF (fun r8 S7 hF => ?_)
    refine dk_istore_n (k := 3) (i := 3) (lv' := [(3, .int r8), (2, .int r6), (0, .ref (ad 0)), (1, .int x1)]) X rfl (by decide) rfl d_Hare_hangs_31 ?_
    refine dk_iconst (v := 0) X (by decide) d_Hare_hangs_32 ?_
    refine dk_istore (i := 4) (lv' := [(4, .int (0 : Int32)), (3, .int r8), (2, .int r6), (0, .ref (ad 0)), (1, .int x1)]) X (by decide) rfl d_Hare_hangs_33 ?_
    refine dk_iconst (v := 0) X (by decide) d_Hare_hangs_35 ?_
    refine dk_istore (i := 5) (lv' := [(5, .int (0 : Int32)), (4, .int (0 : Int32)), (3, .int r8), (2, .int r6), (0, .ref (ad 0)), (1, .int x1)]) X (by decide) rfl d_Hare_hangs_36 ?_
    exact dk_sub [4, 5, 3, 2, 1, 0] rfl (kb_Hare_hangs_38 (n := n) X hR  n x1 r6 r8 (0 : Int32) (0 : Int32) S7 hF)
  · refine dk_bipush (v := -5) X (by decide) d_Hare_hangs_11 ?_
    exact dk_reti hR hF d_Hare_hangs_13
def F_Hare_hangs (n T : Nat) (x1 : Int32) (S : dk_S) : Option (Int32 × dk_S) := B_Hare_hangs_0 n T x1 S
theorem c_Hare_hangs (l : Launch) (g : dk_G) (ad : Nat → Nat) (T n : Nat) (x1 : Int32)  (S : dk_S) : dk_Mi l g y_Hare_hangs b_Hare_hangs 6 rm_Hare_hangs (some .int) [.ref (ad 0), .int x1] (wC g ad T) S (F_Hare_hangs n T x1 S) := dk_enteri (by decide) (Nat.le_of_ble_eq_true rfl) (fun p e s m args below meth c A Q res hF X hR => (kb_Hare_hangs_0 (n := n) X hR  hF))
abbrev b_Hare_least : ByteArray := prog_1_method_22_code
def y_Hare_least : MethodName := ⟨R_Hare, "least", "(II)I"⟩
theorem d_Hare_least_0 : decode b_Hare_least 0 = .ok (.aload_n 0, 1) := by decide +kernel
theorem d_Hare_least_1 : decode b_Hare_least 1 = .ok (.getfield 10, 3) := by decide +kernel
theorem d_Hare_least_4 : decode b_Hare_least 4 = .ok (.iload_n 1, 1) := by decide +kernel
theorem d_Hare_least_5 : decode b_Hare_least 5 = .ok (.invokevirtual 97, 3) := by decide +kernel
theorem d_Hare_least_8 : decode b_Hare_least 8 = .ok (.ifCond .eq 10, 3) := by decide +kernel
theorem d_Hare_least_11 : decode b_Hare_least 11 = .ok (.iload_n 2, 1) := by decide +kernel
theorem d_Hare_least_12 : decode b_Hare_least 12 = .ok (.invokestatic 104, 3) := by decide +kernel
theorem d_Hare_least_15 : decode b_Hare_least 15 = .ok (.ifCond .ne 6, 3) := by decide +kernel
theorem d_Hare_least_18 : decode b_Hare_least 18 = .ok (.bipush (-5), 2) := by decide +kernel
theorem d_Hare_least_20 : decode b_Hare_least 20 = .ok (.ireturn, 1) := by decide +kernel
theorem d_Hare_least_21 : decode b_Hare_least 21 = .ok (.iconst 1, 1) := by decide +kernel
theorem d_Hare_least_22 : decode b_Hare_least 22 = .ok (.aload_n 0, 1) := by decide +kernel
theorem d_Hare_least_23 : decode b_Hare_least 23 = .ok (.getfield 19, 3) := by decide +kernel
theorem d_Hare_least_26 : decode b_Hare_least 26 = .ok (.invokevirtual 120, 3) := by decide +kernel
theorem d_Hare_least_29 : decode b_Hare_least 29 = .ok (.ishl, 1) := by decide +kernel
theorem d_Hare_least_30 : decode b_Hare_least 30 = .ok (.istore_n 3, 1) := by decide +kernel
theorem d_Hare_least_31 : decode b_Hare_least 31 = .ok (.iconst (-1), 1) := by decide +kernel
theorem d_Hare_least_32 : decode b_Hare_least 32 = .ok (.istore 4, 2) := by decide +kernel
theorem d_Hare_least_34 : decode b_Hare_least 34 = .ok (.iconst 0, 1) := by decide +kernel
theorem d_Hare_least_35 : decode b_Hare_least 35 = .ok (.istore 5, 2) := by decide +kernel
theorem d_Hare_least_37 : decode b_Hare_least 37 = .ok (.iload 5, 2) := by decide +kernel
theorem d_Hare_least_39 : decode b_Hare_least 39 = .ok (.iload_n 3, 1) := by decide +kernel
theorem d_Hare_least_40 : decode b_Hare_least 40 = .ok (.if_icmp .ge 57, 3) := by decide +kernel
theorem d_Hare_least_43 : decode b_Hare_least 43 = .ok (.iload 4, 2) := by decide +kernel
theorem d_Hare_least_45 : decode b_Hare_least 45 = .ok (.ifCond .lt 16, 3) := by decide +kernel
theorem d_Hare_least_48 : decode b_Hare_least 48 = .ok (.iload 5, 2) := by decide +kernel
theorem d_Hare_least_50 : decode b_Hare_least 50 = .ok (.invokestatic 239, 3) := by decide +kernel
theorem d_Hare_least_53 : decode b_Hare_least 53 = .ok (.iload 4, 2) := by decide +kernel
theorem d_Hare_least_55 : decode b_Hare_least 55 = .ok (.invokestatic 239, 3) := by decide +kernel
theorem d_Hare_least_58 : decode b_Hare_least 58 = .ok (.if_icmp .ge 7, 3) := by decide +kernel
theorem d_Hare_least_61 : decode b_Hare_least 61 = .ok (.iconst 1, 1) := by decide +kernel
theorem d_Hare_least_62 : decode b_Hare_least 62 = .ok (.goto 4, 3) := by decide +kernel
theorem d_Hare_least_65 : decode b_Hare_least 65 = .ok (.iconst 0, 1) := by decide +kernel
theorem d_Hare_least_66 : decode b_Hare_least 66 = .ok (.istore 6, 2) := by decide +kernel
theorem d_Hare_least_68 : decode b_Hare_least 68 = .ok (.iload 6, 2) := by decide +kernel
theorem d_Hare_least_70 : decode b_Hare_least 70 = .ok (.ifCond .eq 21, 3) := by decide +kernel
theorem d_Hare_least_73 : decode b_Hare_least 73 = .ok (.aload_n 0, 1) := by decide +kernel
theorem d_Hare_least_74 : decode b_Hare_least 74 = .ok (.getfield 49, 3) := by decide +kernel
theorem d_Hare_least_77 : decode b_Hare_least 77 = .ok (.iload_n 1, 1) := by decide +kernel
theorem d_Hare_least_78 : decode b_Hare_least 78 = .ok (.iload 5, 2) := by decide +kernel
theorem d_Hare_least_80 : decode b_Hare_least 80 = .ok (.invokevirtual 236, 3) := by decide +kernel
theorem d_Hare_least_83 : decode b_Hare_least 83 = .ok (.iload_n 2, 1) := by decide +kernel
theorem d_Hare_least_84 : decode b_Hare_least 84 = .ok (.if_icmp .ne 7, 3) := by decide +kernel
theorem d_Hare_least_87 : decode b_Hare_least 87 = .ok (.iload 5, 2) := by decide +kernel
theorem d_Hare_least_89 : decode b_Hare_least 89 = .ok (.istore 4, 2) := by decide +kernel
theorem d_Hare_least_91 : decode b_Hare_least 91 = .ok (.iinc 5 1, 3) := by decide +kernel
theorem d_Hare_least_94 : decode b_Hare_least 94 = .ok (.goto (-57), 3) := by decide +kernel
theorem d_Hare_least_97 : decode b_Hare_least 97 = .ok (.iload 4, 2) := by decide +kernel
theorem d_Hare_least_99 : decode b_Hare_least 99 = .ok (.ireturn, 1) := by decide +kernel
theorem v_Hare_least : dk_Yv y_Hare_least b_Hare_least 7 (some .int) 2 := ⟨dk_in (List.mem_of_getElem? (i := 838) (by decide +kernel)) rfl, dk_in (List.mem_of_getElem? (i := 839) (by decide +kernel)) rfl, dk_in (List.mem_of_getElem? (i := 66) (by decide +kernel)) rfl, dk_in (List.mem_of_getElem? (i := 840) (by decide +kernel)) rfl, by decide +kernel, by decide +kernel, by decide +kernel⟩
abbrev rm_Hare_least : Room := { frames := 6, cells := 0, slots := 0, locals := 142 }
theorem m_Hare_239 : Cond.methodLink R_Hare 239 y_Integer_bitCount ∈ dk_tb := dk_in (List.mem_of_getElem? (i := 841) (by decide +kernel)) rfl
def B_Hare_least_91 (n T : Nat) (k37 : Int32 → Int32 → Int32 → Int32 → Int32 → dk_S → Option (Int32 × dk_S)) (x1 : Int32) (x2 : Int32) (x3 : Int32) (x4 : Int32) (x5 : Int32) (S : dk_S) : Option (Int32 × dk_S) :=
  k37 x1 x2 x3 x4 (x5 + (1 : Int32)) S
set_option maxRecDepth 20000 in
theorem kb_Hare_least_91 {p : Program} {l : Launch} {e : Env} {s : State} {m : MethodId} {args : Array Value} {below : List Frame} {meth : Method} {c : Code} {g : dk_G} {A : Nat → Prop} {Q : State → Prop} {ad : Nat → Nat} {T : Nat} {n : Nat} {res : (Int32 × dk_S)} (X : dk_X p s m args meth c b_Hare_least 7 R_Hare (some .int) g A) (hR : dk_Ri p l e rm_Hare_least s m args below meth c g A Q 7 b_Hare_least (some .int) (wC g ad T) res) {k37 : Int32 → Int32 → Int32 → Int32 → Int32 → dk_S → Option (Int32 × dk_S)} (hk37 : ∀ (x1 : Int32) (x2 : Int32) (x3 : Int32) (x4 : Int32) (x5 : Int32)  (S : dk_S), k37 x1 x2 x3 x4 x5 S = some res → dk_J p l e rm_Hare_least s m args below meth c g A Q 7 0 0 37 [(0, .ref (ad 0)), (1, .int x1), (2, .int x2), (3, .int x3), (4, .int x4), (5, .int x5)] [] (wC g ad T S)) {x1 : Int32} {x2 : Int32} {x3 : Int32} {x4 : Int32} {x5 : Int32} {S : dk_S}  (hF : B_Hare_least_91 n T k37 x1 x2 x3 x4 x5 S = some res) : dk_J p l e rm_Hare_least s m args below meth c g A Q 7 0 0 91 [(0, .ref (ad 0)), (1, .int x1), (2, .int x2), (3, .int x3), (4, .int x4), (5, .int x5)] [] (wC g ad T S) := by
  unfold B_Hare_least_91 at hF
  refine dk_iinc (i := 5) (v := (x5 + (1 : Int32))) (lv' := [(5, .int (x5 + (1 : Int32))), (0, .ref (ad 0)), (1, .int x1), (2, .int x2), (3, .int x3), (4, .int x4)]) X 5 rfl (dk_ii _ (by decide)) (by decide) rfl d_Hare_least_91 ?_
  refine dk_goto (tgt := 37) X (by decide) d_Hare_least_94 ?_
  exact dk_sub [1, 2, 3, 4, 5, 0] rfl (hk37 x1 x2 x3 x4 (x5 + (1 : Int32)) S hF)
def B_Hare_least_66 (n T : Nat) (k37 : Int32 → Int32 → Int32 → Int32 → Int32 → dk_S → Option (Int32 × dk_S)) (x1 : Int32) (x2 : Int32) (x3 : Int32) (x4 : Int32) (x5 : Int32) (u0 : Int32) (S : dk_S) : Option (Int32 × dk_S) :=
  if u0 = 0 then (B_Hare_least_91 n T k37 x1 x2 x3 x4 x5 S) else (dk_c (F_Scene_possessorWithout n T x1 x5 S) fun r2 S1 => if ¬ r2 = x2 then (B_Hare_least_91 n T k37 x1 x2 x3 x4 x5 S1) else (B_Hare_least_91 n T k37 x1 x2 x3 x5 x5 S1))
set_option maxRecDepth 20000 in
theorem kb_Hare_least_66 {p : Program} {l : Launch} {e : Env} {s : State} {m : MethodId} {args : Array Value} {below : List Frame} {meth : Method} {c : Code} {g : dk_G} {A : Nat → Prop} {Q : State → Prop} {ad : Nat → Nat} {T : Nat} {n : Nat} {res : (Int32 × dk_S)} (X : dk_X p s m args meth c b_Hare_least 7 R_Hare (some .int) g A) (hR : dk_Ri p l e rm_Hare_least s m args below meth c g A Q 7 b_Hare_least (some .int) (wC g ad T) res) {k37 : Int32 → Int32 → Int32 → Int32 → Int32 → dk_S → Option (Int32 × dk_S)} (hk37 : ∀ (x1 : Int32) (x2 : Int32) (x3 : Int32) (x4 : Int32) (x5 : Int32)  (S : dk_S), k37 x1 x2 x3 x4 x5 S = some res → dk_J p l e rm_Hare_least s m args below meth c g A Q 7 0 0 37 [(0, .ref (ad 0)), (1, .int x1), (2, .int x2), (3, .int x3), (4, .int x4), (5, .int x5)] [] (wC g ad T S)) {x1 : Int32} {x2 : Int32} {x3 : Int32} {x4 : Int32} {x5 : Int32} {u0 : Int32} {S : dk_S}  (hF : B_Hare_least_66 n T k37 x1 x2 x3 x4 x5 u0 S = some res) : dk_J p l e rm_Hare_least s m args below meth c g A Q 7 0 0 66 [(0, .ref (ad 0)), (1, .int x1), (2, .int x2), (3, .int x3), (4, .int x4), (5, .int x5)] [.int u0] (wC g ad T S) := by
  unfold B_Hare_least_66 at hF
  refine dk_istore (i := 6) (lv' := [(6, .int u0), (0, .ref (ad 0)), (1, .int x1), (2, .int x2), (3, .int x3), (4, .int x4), (5, .int x5)]) X (by decide) rfl d_Hare_least_66 ?_
  refine dk_iload (i := 6) X 0 rfl d_Hare_least_68 ?_
  refine dk_if_eq (tgt := 91) X (by decide) d_Hare_least_70 hF (fun hF => ?_) (fun hF => ?_)
  · exact dk_sub [1, 2, 3, 4, 5, 6] rfl (kb_Hare_least_91 (n := n) X hR hk37  hF)
  · refine dk_aload_n (k := 0) (i := 0) X 1 rfl rfl d_Hare_least_73 ?_
    refine dk_get X q_Hare 0 4 (by decide) (oC_Hare g ad T S) rfl f_Hare_49 d_Hare_least_74 ?_
    refine dk_iload_n (k := 1) (i := 1) X 2 rfl rfl d_Hare_least_77 ?_
    refine dk_iload (i := 5) X 6 rfl d_Hare_least_78 ?_
    refine dk_callVi X v_Scene_possessorWithout [.int x1, .int x5] (c_Scene_possessorWithout l g ad T n x1 x5 S) 18 (oC_Scene g ad T S) rfl rfl m_Hare_236 rfl rfl ⟨rfl, rfl, Nat.le_of_ble_eq_true rfl, Nat.le_of_ble_eq_true rfl, Nat.le_refl _, Nat.le_refl _⟩ (Nat.le_of_ble_eq_true rfl) d_Hare_least_80 hF (fun r2 S1 hF => ?_)
    refine dk_iload_n (k := 2) (i := 2) X 3 rfl rfl d_Hare_least_83 ?_
    refine dk_icmp_ne (tgt := 91) X (by decide) d_Hare_least_84 hF (fun hF => ?_) (fun hF => ?_)
    · exact dk_sub [1, 2, 3, 4, 5, 6] rfl (kb_Hare_least_91 (n := n) X hR hk37  hF)
    · refine dk_iload (i := 5) X 6 rfl d_Hare_least_87 ?_
      refine dk_istore (i := 4) (lv' := [(4, .int x5), (6, .int u0), (0, .ref (ad 0)), (1, .int x1), (2, .int x2), (3, .int x3), (5, .int x5)]) X (by decide) rfl d_Hare_least_89 ?_
      exact dk_sub [2, 3, 4, 5, 0, 6] rfl (kb_Hare_least_91 (n := n) X hR hk37  hF)
def B_Hare_least_61 (n T : Nat) (k37 : Int32 → Int32 → Int32 → Int32 → Int32 → dk_S → Option (Int32 × dk_S)) (x1 : Int32) (x2 : Int32) (x3 : Int32) (x4 : Int32) (x5 : Int32) (S : dk_S) : Option (Int32 × dk_S) :=
  B_Hare_least_66 n T k37 x1 x2 x3 x4 x5 (1 : Int32) S
set_option maxRecDepth 20000 in
theorem kb_Hare_least_61 {p : Program} {l : Launch} {e : Env} {s : State} {m : MethodId} {args : Array Value} {below : List Frame} {meth : Method} {c : Code} {g : dk_G} {A : Nat → Prop} {Q : State → Prop} {ad : Nat → Nat} {T : Nat} {n : Nat} {res : (Int32 × dk_S)} (X : dk_X p s m args meth c b_Hare_least 7 R_Hare (some .int) g A) (hR : dk_Ri p l e rm_Hare_least s m args below meth c g A Q 7 b_Hare_least (some .int) (wC g ad T) res) {k37 : Int32 → Int32 → Int32 → Int32 → Int32 → dk_S → Option (Int32 × dk_S)} (hk37 : ∀ (x1 : Int32) (x2 : Int32) (x3 : Int32) (x4 : Int32) (x5 : Int32)  (S : dk_S), k37 x1 x2 x3 x4 x5 S = some res → dk_J p l e rm_Hare_least s m args below meth c g A Q 7 0 0 37 [(0, .ref (ad 0)), (1, .int x1), (2, .int x2), (3, .int x3), (4, .int x4), (5, .int x5)] [] (wC g ad T S)) {x1 : Int32} {x2 : Int32} {x3 : Int32} {x4 : Int32} {x5 : Int32} {S : dk_S}  (hF : B_Hare_least_61 n T k37 x1 x2 x3 x4 x5 S = some res) : dk_J p l e rm_Hare_least s m args below meth c g A Q 7 0 0 61 [(0, .ref (ad 0)), (1, .int x1), (2, .int x2), (3, .int x3), (4, .int x4), (5, .int x5)] [] (wC g ad T S) := by
  unfold B_Hare_least_61 at hF
  refine dk_iconst (v := 1) X (by decide) d_Hare_least_61 ?_
  refine dk_goto (tgt := 66) X (by decide) d_Hare_least_62 ?_
  exact (kb_Hare_least_66 (n := n) X hR hk37  hF)
def B_Hare_least_37b (n T : Nat) (k37 : Int32 → Int32 → Int32 → Int32 → Int32 → dk_S → Option (Int32 × dk_S)) (x1 : Int32) (x2 : Int32) (x3 : Int32) (x4 : Int32) (x5 : Int32) (S : dk_S) : Option (Int32 × dk_S) :=
  if x3 ≤ x5 then (some (x4, S)) else (if x4 < 0 then (B_Hare_least_61 n T k37 x1 x2 x3 x4 x5 S) else (dk_c (F_Integer_bitCount n T x5 S) fun r4 S3 => dk_c (F_Integer_bitCount n T x4 S3) fun r6 S5 => if r6 ≤ r4 then (B_Hare_least_66 n T k37 x1 x2 x3 x4 x5 (0 : Int32) S5) else (B_Hare_least_61 n T k37 x1 x2 x3 x4 x5 S5)))
set_option maxRecDepth 20000 in
theorem kb_Hare_least_37b {p : Program} {l : Launch} {e : Env} {s : State} {m : MethodId} {args : Array Value} {below : List Frame} {meth : Method} {c : Code} {g : dk_G} {A : Nat → Prop} {Q : State → Prop} {ad : Nat → Nat} {T : Nat} {n : Nat} {res : (Int32 × dk_S)} (X : dk_X p s m args meth c b_Hare_least 7 R_Hare (some .int) g A) (hR : dk_Ri p l e rm_Hare_least s m args below meth c g A Q 7 b_Hare_least (some .int) (wC g ad T) res) {k37 : Int32 → Int32 → Int32 → Int32 → Int32 → dk_S → Option (Int32 × dk_S)} (hk37 : ∀ (x1 : Int32) (x2 : Int32) (x3 : Int32) (x4 : Int32) (x5 : Int32)  (S : dk_S), k37 x1 x2 x3 x4 x5 S = some res → dk_J p l e rm_Hare_least s m args below meth c g A Q 7 0 0 37 [(0, .ref (ad 0)), (1, .int x1), (2, .int x2), (3, .int x3), (4, .int x4), (5, .int x5)] [] (wC g ad T S)) {x1 : Int32} {x2 : Int32} {x3 : Int32} {x4 : Int32} {x5 : Int32} {S : dk_S}  (hF : B_Hare_least_37b n T k37 x1 x2 x3 x4 x5 S = some res) : dk_J p l e rm_Hare_least s m args below meth c g A Q 7 0 0 37 [(0, .ref (ad 0)), (1, .int x1), (2, .int x2), (3, .int x3), (4, .int x4), (5, .int x5)] [] (wC g ad T S) := by
  unfold B_Hare_least_37b at hF
  refine dk_iload (i := 5) X 5 rfl d_Hare_least_37 ?_
  refine dk_iload_n (k := 3) (i := 3) X 3 rfl rfl d_Hare_least_39 ?_
  refine dk_icmp_ge (tgt := 97) X (by decide) d_Hare_least_40 hF (fun hF => ?_) (fun hF => ?_)
  · refine dk_iload (i := 4) X 4 rfl d_Hare_least_97 ?_
    exact dk_reti hR hF d_Hare_least_99
  · refine dk_iload (i := 4) X 4 rfl d_Hare_least_43 ?_
    refine dk_if_lt (tgt := 61) X (by decide) d_Hare_least_45 hF (fun hF => ?_) (fun hF => ?_)
    · exact (kb_Hare_least_61 (n := n) X hR hk37  hF)
    · refine dk_iload (i := 5) X 5 rfl d_Hare_least_48 ?_
      refine dk_callSi X v_Integer_bitCount [.int x5] (c_Integer_bitCount l g ad T n x5 S) m_Hare_239 rfl rfl ⟨rfl, rfl, Nat.le_of_ble_eq_true rfl, Nat.le_of_ble_eq_true rfl, Nat.le_refl _, Nat.le_refl _⟩ (Nat.le_of_ble_eq_true rfl) d_Hare_least_50 hF (fun r4 S3 hF => ?_)
      refine dk_iload (i := 4) X 4 rfl d_Hare_least_53 ?_
      refine dk_callSi X v_Integer_bitCount [.int x4] (c_Integer_bitCount l g ad T n x4 S3) m_Hare_239 rfl rfl ⟨rfl, rfl, Nat.le_of_ble_eq_true rfl, Nat.le_of_ble_eq_true rfl, Nat.le_refl _, Nat.le_refl _⟩ (Nat.le_of_ble_eq_true rfl) d_Hare_least_55 hF (fun r6 S5 hF => ?_)
      refine dk_icmp_ge (tgt := 65) X (by decide) d_Hare_least_58 hF (fun hF => ?_) (fun hF => ?_)
      · refine dk_iconst (v := 0) X (by decide) d_Hare_least_65 ?_
        exact (kb_Hare_least_66 (n := n) X hR hk37  hF)
      · exact (kb_Hare_least_61 (n := n) X hR hk37  hF)
def B_Hare_least_37 (n T : Nat)  : Nat → Int32 → Int32 → Int32 → Int32 → Int32 → dk_S → Option (Int32 × dk_S)
  | 0 => fun _ _ _ _ _ _ => none
  | q + 1 => fun x1 x2 x3 x4 x5 S => B_Hare_least_37b n T (fun x1 x2 x3 x4 x5 S => B_Hare_least_37 n T  q x1 x2 x3 x4 x5 S) x1 x2 x3 x4 x5 S
theorem kb_Hare_least_37 {p : Program} {l : Launch} {e : Env} {s : State} {m : MethodId} {args : Array Value} {below : List Frame} {meth : Method} {c : Code} {g : dk_G} {A : Nat → Prop} {Q : State → Prop} {ad : Nat → Nat} {T : Nat} {n : Nat} {res : (Int32 × dk_S)} (X : dk_X p s m args meth c b_Hare_least 7 R_Hare (some .int) g A) (hR : dk_Ri p l e rm_Hare_least s m args below meth c g A Q 7 b_Hare_least (some .int) (wC g ad T) res)  : ∀ (q : Nat) (x1 : Int32) (x2 : Int32) (x3 : Int32) (x4 : Int32) (x5 : Int32)  (S : dk_S), B_Hare_least_37 n T  q x1 x2 x3 x4 x5 S = some res → dk_J p l e rm_Hare_least s m args below meth c g A Q 7 0 0 37 [(0, .ref (ad 0)), (1, .int x1), (2, .int x2), (3, .int x3), (4, .int x4), (5, .int x5)] [] (wC g ad T S) := by
  intro q
  induction q with
  | zero => intro x1 x2 x3 x4 x5  S hF; cases hF
  | succ q ih => intro x1 x2 x3 x4 x5  S hF; exact kb_Hare_least_37b (n := n) X hR ih  hF
def B_Hare_least_0 (n T : Nat)  (x1 : Int32) (x2 : Int32) (S : dk_S) : Option (Int32 × dk_S) :=
  dk_c (F_Land_hasBeast n T x1 S) fun r8 S7 => if r8 = 0 then (some ((-5 : Int32), S7)) else (dk_c (F_Hare_isOne n T x2 S7) fun r10 S9 => if ¬ r10 = 0 then (dk_c (F_Diary_countUnsure n T S9) fun r12 S11 => B_Hare_least_37 n T  n x1 x2 ((1 : Int32) <<< (r12 &&& 31)) (-1 : Int32) (0 : Int32) S11) else (some ((-5 : Int32), S9)))
set_option maxRecDepth 20000 in
theorem kb_Hare_least_0 {p : Program} {l : Launch} {e : Env} {s : State} {m : MethodId} {args : Array Value} {below : List Frame} {meth : Method} {c : Code} {g : dk_G} {A : Nat → Prop} {Q : State → Prop} {ad : Nat → Nat} {T : Nat} {n : Nat} {res : (Int32 × dk_S)} (X : dk_X p s m args meth c b_Hare_least 7 R_Hare (some .int) g A) (hR : dk_Ri p l e rm_Hare_least s m args below meth c g A Q 7 b_Hare_least (some .int) (wC g ad T) res)  {x1 : Int32} {x2 : Int32} {S : dk_S}  (hF : B_Hare_least_0 n T  x1 x2 S = some res) : dk_J p l e rm_Hare_least s m args below meth c g A Q 7 0 0 0 [(0, .ref (ad 0)), (1, .int x1), (2, .int x2)] [] (wC g ad T S) := by
  unfold B_Hare_least_0 at hF
  refine dk_aload_n (k := 0) (i := 0) X 0 rfl rfl d_Hare_least_0 ?_
  refine dk_get X q_Hare 0 0 (by decide) (oC_Hare g ad T S) rfl f_Hare_10 d_Hare_least_1 ?_
  refine dk_iload_n (k := 1) (i := 1) X 1 rfl rfl d_Hare_least_4 ?_
  refine dk_callVi X v_Land_hasBeast [.int x1] (c_Land_hasBeast l g ad T n x1 S) 1 (oC_Land g ad T S) rfl rfl m_Hare_97 rfl rfl ⟨rfl, rfl, Nat.le_of_ble_eq_true rfl, Nat.le_of_ble_eq_true rfl, Nat.le_refl _, Nat.le_refl _⟩ (Nat.le_of_ble_eq_true rfl) d_Hare_least_5 hF (fun r8 S7 hF => ?_)
  refine dk_if_eq (tgt := 18) X (by decide) d_Hare_least_8 hF (fun hF => ?_) (fun hF => ?_)
  · refine dk_bipush (v := -5) X (by decide) d_Hare_least_18 ?_
    exact dk_reti hR hF d_Hare_least_20
  · refine dk_iload_n (k := 2) (i := 2) X 2 rfl rfl d_Hare_least_11 ?_
    refine dk_callSi X v_Hare_isOne [.int x2] (c_Hare_isOne l g ad T n x2 S7) m_Hare_104 rfl rfl ⟨rfl, rfl, Nat.le_of_ble_eq_true rfl, Nat.le_of_ble_eq_true rfl, Nat.le_refl _, Nat.le_refl _⟩ (Nat.le_of_ble_eq_true rfl) d_Hare_least_12 hF (fun r10 S9 hF => ?_)
    refine dk_if_ne (tgt := 21) X (by decide) d_Hare_least_15 hF (fun hF => ?_) (fun hF => ?_)
    · refine dk_iconst (v := 1) X (by decide) d_Hare_least_21 ?_
      refine dk_aload_n (k := 0) (i := 0) X 0 rfl rfl d_Hare_least_22 ?_
      refine dk_get X q_Hare 0 1 (by decide) (oC_Hare g ad T S9) rfl f_Hare_19 d_Hare_least_23 ?_
      refine dk_callVi X v_Diary_countUnsure [] (c_Diary_countUnsure l g ad T n S9) 5 (oC_Diary g ad T S9) rfl rfl m_Hare_120 rfl rfl ⟨rfl, rfl, Nat.le_of_ble_eq_true rfl, Nat.le_of_ble_eq_true rfl, Nat.le_refl _, Nat.le_refl _⟩ (Nat.le_of_ble_eq_true rfl) d_Hare_least_26 hF (fun r12 S11 hF => ?_)
      refine dk_ishl X d_Hare_least_29 ?_
      refine dk_istore_n (k := 3) (i := 3) (lv' := [(3, .int ((1 : Int32) <<< (r12 &&& 31))), (0, .ref (ad 0)), (1, .int x1), (2, .int x2)]) X rfl (by decide) rfl d_Hare_least_30 ?_
      refine dk_iconst (v := -1) X (by decide) d_Hare_least_31 ?_
      refine dk_istore (i := 4) (lv' := [(4, .int (-1 : Int32)), (3, .int ((1 : Int32) <<< (r12 &&& 31))), (0, .ref (ad 0)), (1, .int x1), (2, .int x2)]) X (by decide) rfl d_Hare_least_32 ?_
      refine dk_iconst (v := 0) X (by decide) d_Hare_least_34 ?_
      refine dk_istore (i := 5) (lv' := [(5, .int (0 : Int32)), (4, .int (-1 : Int32)), (3, .int ((1 : Int32) <<< (r12 &&& 31))), (0, .ref (ad 0)), (1, .int x1), (2, .int x2)]) X (by decide) rfl d_Hare_least_35 ?_
      exact dk_sub [3, 4, 5, 2, 1, 0] rfl (kb_Hare_least_37 (n := n) X hR  n x1 x2 ((1 : Int32) <<< (r12 &&& 31)) (-1 : Int32) (0 : Int32) S11 hF)
    · refine dk_bipush (v := -5) X (by decide) d_Hare_least_18 ?_
      exact dk_reti hR hF d_Hare_least_20
def F_Hare_least (n T : Nat) (x1 : Int32) (x2 : Int32) (S : dk_S) : Option (Int32 × dk_S) := B_Hare_least_0 n T x1 x2 S
theorem c_Hare_least (l : Launch) (g : dk_G) (ad : Nat → Nat) (T n : Nat) (x1 : Int32) (x2 : Int32)  (S : dk_S) : dk_Mi l g y_Hare_least b_Hare_least 7 rm_Hare_least (some .int) [.ref (ad 0), .int x1, .int x2] (wC g ad T) S (F_Hare_least n T x1 x2 S) := dk_enteri (by decide) (Nat.le_of_ble_eq_true rfl) (fun p e s m args below meth c A Q res hF X hR => (kb_Hare_least_0 (n := n) X hR  hF))
abbrev b_Hare_commonDivisor : ByteArray := prog_1_method_42_code
def y_Hare_commonDivisor : MethodName := ⟨R_Hare, "commonDivisor", "(II)I"⟩
theorem d_Hare_commonDivisor_0 : decode b_Hare_commonDivisor 0 = .ok (.iload_n 0, 1) := by decide +kernel
theorem d_Hare_commonDivisor_1 : decode b_Hare_commonDivisor 1 = .ok (.istore_n 2, 1) := by decide +kernel
theorem d_Hare_commonDivisor_2 : decode b_Hare_commonDivisor 2 = .ok (.iload_n 1, 1) := by decide +kernel
theorem d_Hare_commonDivisor_3 : decode b_Hare_commonDivisor 3 = .ok (.istore_n 3, 1) := by decide +kernel
theorem d_Hare_commonDivisor_4 : decode b_Hare_commonDivisor 4 = .ok (.iconst 0, 1) := by decide +kernel
theorem d_Hare_commonDivisor_5 : decode b_Hare_commonDivisor 5 = .ok (.istore 4, 2) := by decide +kernel
theorem d_Hare_commonDivisor_7 : decode b_Hare_commonDivisor 7 = .ok (.iload 4, 2) := by decide +kernel
theorem d_Hare_commonDivisor_9 : decode b_Hare_commonDivisor 9 = .ok (.bipush 64, 2) := by decide +kernel
theorem d_Hare_commonDivisor_11 : decode b_Hare_commonDivisor 11 = .ok (.if_icmp .ge 23, 3) := by decide +kernel
theorem d_Hare_commonDivisor_14 : decode b_Hare_commonDivisor 14 = .ok (.iload_n 3, 1) := by decide +kernel
theorem d_Hare_commonDivisor_15 : decode b_Hare_commonDivisor 15 = .ok (.ifCond .eq 19, 3) := by decide +kernel
theorem d_Hare_commonDivisor_18 : decode b_Hare_commonDivisor 18 = .ok (.iload_n 2, 1) := by decide +kernel
theorem d_Hare_commonDivisor_19 : decode b_Hare_commonDivisor 19 = .ok (.iload_n 3, 1) := by decide +kernel
theorem d_Hare_commonDivisor_20 : decode b_Hare_commonDivisor 20 = .ok (.irem, 1) := by decide +kernel
theorem d_Hare_commonDivisor_21 : decode b_Hare_commonDivisor 21 = .ok (.istore 5, 2) := by decide +kernel
theorem d_Hare_commonDivisor_23 : decode b_Hare_commonDivisor 23 = .ok (.iload_n 3, 1) := by decide +kernel
theorem d_Hare_commonDivisor_24 : decode b_Hare_commonDivisor 24 = .ok (.istore_n 2, 1) := by decide +kernel
theorem d_Hare_commonDivisor_25 : decode b_Hare_commonDivisor 25 = .ok (.iload 5, 2) := by decide +kernel
theorem d_Hare_commonDivisor_27 : decode b_Hare_commonDivisor 27 = .ok (.istore_n 3, 1) := by decide +kernel
theorem d_Hare_commonDivisor_28 : decode b_Hare_commonDivisor 28 = .ok (.iinc 4 1, 3) := by decide +kernel
theorem d_Hare_commonDivisor_31 : decode b_Hare_commonDivisor 31 = .ok (.goto (-24), 3) := by decide +kernel
theorem d_Hare_commonDivisor_34 : decode b_Hare_commonDivisor 34 = .ok (.iload_n 2, 1) := by decide +kernel
theorem d_Hare_commonDivisor_35 : decode b_Hare_commonDivisor 35 = .ok (.ireturn, 1) := by decide +kernel
theorem v_Hare_commonDivisor : dk_Ys y_Hare_commonDivisor b_Hare_commonDivisor 6 (some .int) 2 := ⟨dk_in (List.mem_of_getElem? (i := 853) (by decide +kernel)) rfl, dk_in (List.mem_of_getElem? (i := 66) (by decide +kernel)) rfl, dk_in (List.mem_of_getElem? (i := 854) (by decide +kernel)) rfl, by decide +kernel, by decide +kernel, by decide +kernel⟩
abbrev rm_Hare_commonDivisor : Room := { frames := 0, cells := 0, slots := 0, locals := 0 }
def B_Hare_commonDivisor_7b (n T : Nat) (k7 : Int32 → Int32 → Int32 → dk_S → Option (Int32 × dk_S)) (x2 : Int32) (x3 : Int32) (x4 : Int32) (S : dk_S) : Option (Int32 × dk_S) :=
  if (64 : Int32) ≤ x4 then (some (x2, S)) else (if x3 = 0 then (some (x2, S)) else (dk_g (¬ x3 = 0) <| k7 x3 (x2 - x2 / x3 * x3) (x4 + (1 : Int32)) S))
set_option maxRecDepth 20000 in
theorem kb_Hare_commonDivisor_7b {p : Program} {l : Launch} {e : Env} {s : State} {m : MethodId} {args : Array Value} {below : List Frame} {meth : Method} {c : Code} {g : dk_G} {A : Nat → Prop} {Q : State → Prop} {ad : Nat → Nat} {T : Nat} {n : Nat} {res : (Int32 × dk_S)} (X : dk_X p s m args meth c b_Hare_commonDivisor 6 R_Hare (some .int) g A) (hR : dk_Ri p l e rm_Hare_commonDivisor s m args below meth c g A Q 6 b_Hare_commonDivisor (some .int) (wC g ad T) res) {k7 : Int32 → Int32 → Int32 → dk_S → Option (Int32 × dk_S)} (hk7 : ∀ (x2 : Int32) (x3 : Int32) (x4 : Int32)  (S : dk_S), k7 x2 x3 x4 S = some res → dk_J p l e rm_Hare_commonDivisor s m args below meth c g A Q 6 0 0 7 [(2, .int x2), (3, .int x3), (4, .int x4)] [] (wC g ad T S)) {x2 : Int32} {x3 : Int32} {x4 : Int32} {S : dk_S}  (hF : B_Hare_commonDivisor_7b n T k7 x2 x3 x4 S = some res) : dk_J p l e rm_Hare_commonDivisor s m args below meth c g A Q 6 0 0 7 [(2, .int x2), (3, .int x3), (4, .int x4)] [] (wC g ad T S) := by
  unfold B_Hare_commonDivisor_7b at hF
  refine dk_iload (i := 4) X 2 rfl d_Hare_commonDivisor_7 ?_
  refine dk_bipush (v := 64) X (by decide) d_Hare_commonDivisor_9 ?_
  refine dk_icmp_ge (tgt := 34) X (by decide) d_Hare_commonDivisor_11 hF (fun hF => ?_) (fun hF => ?_)
  · refine dk_iload_n (k := 2) (i := 2) X 0 rfl rfl d_Hare_commonDivisor_34 ?_
    exact dk_reti hR hF d_Hare_commonDivisor_35
  · refine dk_iload_n (k := 3) (i := 3) X 1 rfl rfl d_Hare_commonDivisor_14 ?_
    refine dk_if_eq (tgt := 34) X (by decide) d_Hare_commonDivisor_15 hF (fun hF => ?_) (fun hF => ?_)
    · refine dk_iload_n (k := 2) (i := 2) X 0 rfl rfl d_Hare_commonDivisor_34 ?_
      exact dk_reti hR hF d_Hare_commonDivisor_35
    · refine dk_iload_n (k := 2) (i := 2) X 0 rfl rfl d_Hare_commonDivisor_18 ?_
      refine dk_iload_n (k := 3) (i := 3) X 1 rfl rfl d_Hare_commonDivisor_19 ?_
      have hF0 := dk_g_out hF
      have hF := hF0.2
      refine dk_irem X hF0.1 d_Hare_commonDivisor_20 ?_
      refine dk_istore (i := 5) (lv' := [(5, .int (x2 - x2 / x3 * x3)), (2, .int x2), (3, .int x3), (4, .int x4)]) X (by decide) rfl d_Hare_commonDivisor_21 ?_
      refine dk_iload_n (k := 3) (i := 3) X 2 rfl rfl d_Hare_commonDivisor_23 ?_
      refine dk_istore_n (k := 2) (i := 2) (lv' := [(2, .int x3), (5, .int (x2 - x2 / x3 * x3)), (3, .int x3), (4, .int x4)]) X rfl (by decide) rfl d_Hare_commonDivisor_24 ?_
      refine dk_iload (i := 5) X 1 rfl d_Hare_commonDivisor_25 ?_
      refine dk_istore_n (k := 3) (i := 3) (lv' := [(3, .int (x2 - x2 / x3 * x3)), (2, .int x3), (5, .int (x2 - x2 / x3 * x3)), (4, .int x4)]) X rfl (by decide) rfl d_Hare_commonDivisor_27 ?_
      refine dk_iinc (i := 4) (v := (x4 + (1 : Int32))) (lv' := [(4, .int (x4 + (1 : Int32))), (3, .int (x2 - x2 / x3 * x3)), (2, .int x3), (5, .int (x2 - x2 / x3 * x3))]) X 3 rfl (dk_ii _ (by decide)) (by decide) rfl d_Hare_commonDivisor_28 ?_
      refine dk_goto (tgt := 7) X (by decide) d_Hare_commonDivisor_31 ?_
      exact dk_sub [2, 1, 0] rfl (hk7 x3 (x2 - x2 / x3 * x3) (x4 + (1 : Int32)) S hF)
def B_Hare_commonDivisor_7 (n T : Nat)  : Nat → Int32 → Int32 → Int32 → dk_S → Option (Int32 × dk_S)
  | 0 => fun _ _ _ _ => none
  | q + 1 => fun x2 x3 x4 S => B_Hare_commonDivisor_7b n T (fun x2 x3 x4 S => B_Hare_commonDivisor_7 n T  q x2 x3 x4 S) x2 x3 x4 S
theorem kb_Hare_commonDivisor_7 {p : Program} {l : Launch} {e : Env} {s : State} {m : MethodId} {args : Array Value} {below : List Frame} {meth : Method} {c : Code} {g : dk_G} {A : Nat → Prop} {Q : State → Prop} {ad : Nat → Nat} {T : Nat} {n : Nat} {res : (Int32 × dk_S)} (X : dk_X p s m args meth c b_Hare_commonDivisor 6 R_Hare (some .int) g A) (hR : dk_Ri p l e rm_Hare_commonDivisor s m args below meth c g A Q 6 b_Hare_commonDivisor (some .int) (wC g ad T) res)  : ∀ (q : Nat) (x2 : Int32) (x3 : Int32) (x4 : Int32)  (S : dk_S), B_Hare_commonDivisor_7 n T  q x2 x3 x4 S = some res → dk_J p l e rm_Hare_commonDivisor s m args below meth c g A Q 6 0 0 7 [(2, .int x2), (3, .int x3), (4, .int x4)] [] (wC g ad T S) := by
  intro q
  induction q with
  | zero => intro x2 x3 x4  S hF; cases hF
  | succ q ih => intro x2 x3 x4  S hF; exact kb_Hare_commonDivisor_7b (n := n) X hR ih  hF
def B_Hare_commonDivisor_0 (n T : Nat)  (x0 : Int32) (x1 : Int32) (S : dk_S) : Option (Int32 × dk_S) :=
  B_Hare_commonDivisor_7 n T  n x0 x1 (0 : Int32) S
set_option maxRecDepth 20000 in
theorem kb_Hare_commonDivisor_0 {p : Program} {l : Launch} {e : Env} {s : State} {m : MethodId} {args : Array Value} {below : List Frame} {meth : Method} {c : Code} {g : dk_G} {A : Nat → Prop} {Q : State → Prop} {ad : Nat → Nat} {T : Nat} {n : Nat} {res : (Int32 × dk_S)} (X : dk_X p s m args meth c b_Hare_commonDivisor 6 R_Hare (some .int) g A) (hR : dk_Ri p l e rm_Hare_commonDivisor s m args below meth c g A Q 6 b_Hare_commonDivisor (some .int) (wC g ad T) res)  {x0 : Int32} {x1 : Int32} {S : dk_S}  (hF : B_Hare_commonDivisor_0 n T  x0 x1 S = some res) : dk_J p l e rm_Hare_commonDivisor s m args below meth c g A Q 6 0 0 0 [(0, .int x0), (1, .int x1)] [] (wC g ad T S) := by
  unfold B_Hare_commonDivisor_0 at hF
  refine dk_iload_n (k := 0) (i := 0) X 0 rfl rfl d_Hare_commonDivisor_0 ?_
  refine dk_istore_n (k := 2) (i := 2) (lv' := [(2, .int x0), (0, .int x0), (1, .int x1)]) X rfl (by decide) rfl d_Hare_commonDivisor_1 ?_
  refine dk_iload_n (k := 1) (i := 1) X 2 rfl rfl d_Hare_commonDivisor_2 ?_
  refine dk_istore_n (k := 3) (i := 3) (lv' := [(3, .int x1), (2, .int x0), (0, .int x0), (1, .int x1)]) X rfl (by decide) rfl d_Hare_commonDivisor_3 ?_
  refine dk_iconst (v := 0) X (by decide) d_Hare_commonDivisor_4 ?_
  refine dk_istore (i := 4) (lv' := [(4, .int (0 : Int32)), (3, .int x1), (2, .int x0), (0, .int x0), (1, .int x1)]) X (by decide) rfl d_Hare_commonDivisor_5 ?_
  exact dk_sub [2, 1, 0] rfl (kb_Hare_commonDivisor_7 (n := n) X hR  n x0 x1 (0 : Int32) S hF)
def F_Hare_commonDivisor (n T : Nat) (x0 : Int32) (x1 : Int32) (S : dk_S) : Option (Int32 × dk_S) := B_Hare_commonDivisor_0 n T x0 x1 S
theorem c_Hare_commonDivisor (l : Launch) (g : dk_G) (ad : Nat → Nat) (T n : Nat) (x0 : Int32) (x1 : Int32)  (S : dk_S) : dk_Mi l g y_Hare_commonDivisor b_Hare_commonDivisor 6 rm_Hare_commonDivisor (some .int) [.int x0, .int x1] (wC g ad T) S (F_Hare_commonDivisor n T x0 x1 S) := dk_enteri (by decide) (Nat.le_of_ble_eq_true rfl) (fun p e s m args below meth c A Q res hF X hR => (kb_Hare_commonDivisor_0 (n := n) X hR  hF))
abbrev b_Hare_share : ByteArray := prog_1_method_23_code
def y_Hare_share : MethodName := ⟨R_Hare, "share", "(IIII)J"⟩
theorem d_Hare_share_0 : decode b_Hare_share 0 = .ok (.aload_n 0, 1) := by decide +kernel
theorem d_Hare_share_1 : decode b_Hare_share 1 = .ok (.getfield 10, 3) := by decide +kernel
theorem d_Hare_share_4 : decode b_Hare_share 4 = .ok (.iload_n 1, 1) := by decide +kernel
theorem d_Hare_share_5 : decode b_Hare_share 5 = .ok (.invokevirtual 97, 3) := by decide +kernel
theorem d_Hare_share_8 : decode b_Hare_share 8 = .ok (.ifCond .eq 32, 3) := by decide +kernel
theorem d_Hare_share_11 : decode b_Hare_share 11 = .ok (.aload_n 0, 1) := by decide +kernel
theorem d_Hare_share_12 : decode b_Hare_share 12 = .ok (.getfield 19, 3) := by decide +kernel
theorem d_Hare_share_15 : decode b_Hare_share 15 = .ok (.iload_n 2, 1) := by decide +kernel
theorem d_Hare_share_16 : decode b_Hare_share 16 = .ok (.invokevirtual 163, 3) := by decide +kernel
theorem d_Hare_share_19 : decode b_Hare_share 19 = .ok (.ifCond .eq 21, 3) := by decide +kernel
theorem d_Hare_share_22 : decode b_Hare_share 22 = .ok (.iload_n 3, 1) := by decide +kernel
theorem d_Hare_share_23 : decode b_Hare_share 23 = .ok (.invokestatic 104, 3) := by decide +kernel
theorem d_Hare_share_26 : decode b_Hare_share 26 = .ok (.ifCond .eq 14, 3) := by decide +kernel
theorem d_Hare_share_29 : decode b_Hare_share 29 = .ok (.iload 4, 2) := by decide +kernel
theorem d_Hare_share_31 : decode b_Hare_share 31 = .ok (.ifCond .eq 13, 3) := by decide +kernel
theorem d_Hare_share_34 : decode b_Hare_share 34 = .ok (.iload 4, 2) := by decide +kernel
theorem d_Hare_share_36 : decode b_Hare_share 36 = .ok (.iconst 1, 1) := by decide +kernel
theorem d_Hare_share_37 : decode b_Hare_share 37 = .ok (.if_icmp .eq 7, 3) := by decide +kernel
theorem d_Hare_share_40 : decode b_Hare_share 40 = .ok (.ldc2_w 244, 3) := by decide +kernel
theorem d_Hare_share_43 : decode b_Hare_share 43 = .ok (.lreturn, 1) := by decide +kernel
theorem d_Hare_share_44 : decode b_Hare_share 44 = .ok (.aload_n 0, 1) := by decide +kernel
theorem d_Hare_share_45 : decode b_Hare_share 45 = .ok (.getfield 49, 3) := by decide +kernel
theorem d_Hare_share_48 : decode b_Hare_share 48 = .ok (.iload_n 2, 1) := by decide +kernel
theorem d_Hare_share_49 : decode b_Hare_share 49 = .ok (.invokevirtual 166, 3) := by decide +kernel
theorem d_Hare_share_52 : decode b_Hare_share 52 = .ok (.iconst 0, 1) := by decide +kernel
theorem d_Hare_share_53 : decode b_Hare_share 53 = .ok (.istore 5, 2) := by decide +kernel
theorem d_Hare_share_55 : decode b_Hare_share 55 = .ok (.iconst 0, 1) := by decide +kernel
theorem d_Hare_share_56 : decode b_Hare_share 56 = .ok (.istore 6, 2) := by decide +kernel
theorem d_Hare_share_58 : decode b_Hare_share 58 = .ok (.iconst 0, 1) := by decide +kernel
theorem d_Hare_share_59 : decode b_Hare_share 59 = .ok (.istore 7, 2) := by decide +kernel
theorem d_Hare_share_61 : decode b_Hare_share 61 = .ok (.iload 7, 2) := by decide +kernel
theorem d_Hare_share_63 : decode b_Hare_share 63 = .ok (.aload_n 0, 1) := by decide +kernel
theorem d_Hare_share_64 : decode b_Hare_share 64 = .ok (.getfield 49, 3) := by decide +kernel
theorem d_Hare_share_67 : decode b_Hare_share 67 = .ok (.getfield 169, 3) := by decide +kernel
theorem d_Hare_share_70 : decode b_Hare_share 70 = .ok (.if_icmp .ge 78, 3) := by decide +kernel
theorem d_Hare_share_73 : decode b_Hare_share 73 = .ok (.aload_n 0, 1) := by decide +kernel
theorem d_Hare_share_74 : decode b_Hare_share 74 = .ok (.getfield 49, 3) := by decide +kernel
theorem d_Hare_share_77 : decode b_Hare_share 77 = .ok (.getfield 177, 3) := by decide +kernel
theorem d_Hare_share_80 : decode b_Hare_share 80 = .ok (.iload 7, 2) := by decide +kernel
theorem d_Hare_share_82 : decode b_Hare_share 82 = .ok (.iaload, 1) := by decide +kernel
theorem d_Hare_share_83 : decode b_Hare_share 83 = .ok (.iload_n 1, 1) := by decide +kernel
theorem d_Hare_share_84 : decode b_Hare_share 84 = .ok (.if_icmp .ne 58, 3) := by decide +kernel
theorem d_Hare_share_87 : decode b_Hare_share 87 = .ok (.aload_n 0, 1) := by decide +kernel
theorem d_Hare_share_88 : decode b_Hare_share 88 = .ok (.getfield 49, 3) := by decide +kernel
theorem d_Hare_share_91 : decode b_Hare_share 91 = .ok (.iload 7, 2) := by decide +kernel
theorem d_Hare_share_93 : decode b_Hare_share 93 = .ok (.invokevirtual 184, 3) := by decide +kernel
theorem d_Hare_share_96 : decode b_Hare_share 96 = .ok (.ifCond .eq 46, 3) := by decide +kernel
theorem d_Hare_share_99 : decode b_Hare_share 99 = .ok (.aload_n 0, 1) := by decide +kernel
theorem d_Hare_share_100 : decode b_Hare_share 100 = .ok (.getfield 49, 3) := by decide +kernel
theorem d_Hare_share_103 : decode b_Hare_share 103 = .ok (.iload 7, 2) := by decide +kernel
theorem d_Hare_share_105 : decode b_Hare_share 105 = .ok (.invokevirtual 190, 3) := by decide +kernel
theorem d_Hare_share_108 : decode b_Hare_share 108 = .ok (.istore 8, 2) := by decide +kernel
theorem d_Hare_share_110 : decode b_Hare_share 110 = .ok (.iload 6, 2) := by decide +kernel
theorem d_Hare_share_112 : decode b_Hare_share 112 = .ok (.iload 8, 2) := by decide +kernel
theorem d_Hare_share_114 : decode b_Hare_share 114 = .ok (.iadd, 1) := by decide +kernel
theorem d_Hare_share_115 : decode b_Hare_share 115 = .ok (.istore 6, 2) := by decide +kernel
theorem d_Hare_share_117 : decode b_Hare_share 117 = .ok (.iload 5, 2) := by decide +kernel
theorem d_Hare_share_119 : decode b_Hare_share 119 = .ok (.aload_n 0, 1) := by decide +kernel
theorem d_Hare_share_120 : decode b_Hare_share 120 = .ok (.getfield 49, 3) := by decide +kernel
theorem d_Hare_share_123 : decode b_Hare_share 123 = .ok (.getfield 174, 3) := by decide +kernel
theorem d_Hare_share_126 : decode b_Hare_share 126 = .ok (.iload 7, 2) := by decide +kernel
theorem d_Hare_share_128 : decode b_Hare_share 128 = .ok (.iaload, 1) := by decide +kernel
theorem d_Hare_share_129 : decode b_Hare_share 129 = .ok (.iload_n 3, 1) := by decide +kernel
theorem d_Hare_share_130 : decode b_Hare_share 130 = .ok (.if_icmp .ne 8, 3) := by decide +kernel
theorem d_Hare_share_133 : decode b_Hare_share 133 = .ok (.iload 8, 2) := by decide +kernel
theorem d_Hare_share_135 : decode b_Hare_share 135 = .ok (.goto 4, 3) := by decide +kernel
theorem d_Hare_share_138 : decode b_Hare_share 138 = .ok (.iconst 0, 1) := by decide +kernel
theorem d_Hare_share_139 : decode b_Hare_share 139 = .ok (.iadd, 1) := by decide +kernel
theorem d_Hare_share_140 : decode b_Hare_share 140 = .ok (.istore 5, 2) := by decide +kernel
theorem d_Hare_share_142 : decode b_Hare_share 142 = .ok (.iinc 7 1, 3) := by decide +kernel
theorem d_Hare_share_145 : decode b_Hare_share 145 = .ok (.goto (-84), 3) := by decide +kernel
theorem d_Hare_share_148 : decode b_Hare_share 148 = .ok (.iload 6, 2) := by decide +kernel
theorem d_Hare_share_150 : decode b_Hare_share 150 = .ok (.iload 5, 2) := by decide +kernel
theorem d_Hare_share_152 : decode b_Hare_share 152 = .ok (.invokestatic 246, 3) := by decide +kernel
theorem d_Hare_share_155 : decode b_Hare_share 155 = .ok (.istore 7, 2) := by decide +kernel
theorem d_Hare_share_157 : decode b_Hare_share 157 = .ok (.iload 7, 2) := by decide +kernel
theorem d_Hare_share_159 : decode b_Hare_share 159 = .ok (.ifCond .ne 7, 3) := by decide +kernel
theorem d_Hare_share_162 : decode b_Hare_share 162 = .ok (.iload 4, 2) := by decide +kernel
theorem d_Hare_share_164 : decode b_Hare_share 164 = .ok (.i2l, 1) := by decide +kernel
theorem d_Hare_share_165 : decode b_Hare_share 165 = .ok (.lreturn, 1) := by decide +kernel
theorem d_Hare_share_166 : decode b_Hare_share 166 = .ok (.iload 4, 2) := by decide +kernel
theorem d_Hare_share_168 : decode b_Hare_share 168 = .ok (.ifCond .ne 12, 3) := by decide +kernel
theorem d_Hare_share_171 : decode b_Hare_share 171 = .ok (.iload 5, 2) := by decide +kernel
theorem d_Hare_share_173 : decode b_Hare_share 173 = .ok (.iload 7, 2) := by decide +kernel
theorem d_Hare_share_175 : decode b_Hare_share 175 = .ok (.idiv, 1) := by decide +kernel
theorem d_Hare_share_176 : decode b_Hare_share 176 = .ok (.i2l, 1) := by decide +kernel
theorem d_Hare_share_177 : decode b_Hare_share 177 = .ok (.goto 9, 3) := by decide +kernel
theorem d_Hare_share_180 : decode b_Hare_share 180 = .ok (.iload 6, 2) := by decide +kernel
theorem d_Hare_share_182 : decode b_Hare_share 182 = .ok (.iload 7, 2) := by decide +kernel
theorem d_Hare_share_184 : decode b_Hare_share 184 = .ok (.idiv, 1) := by decide +kernel
theorem d_Hare_share_185 : decode b_Hare_share 185 = .ok (.i2l, 1) := by decide +kernel
theorem d_Hare_share_186 : decode b_Hare_share 186 = .ok (.lreturn, 1) := by decide +kernel
theorem v_Hare_share : dk_Yv y_Hare_share b_Hare_share 9 (some .long) 4 := ⟨dk_in (List.mem_of_getElem? (i := 848) (by decide +kernel)) rfl, dk_in (List.mem_of_getElem? (i := 849) (by decide +kernel)) rfl, dk_in (List.mem_of_getElem? (i := 66) (by decide +kernel)) rfl, dk_in (List.mem_of_getElem? (i := 850) (by decide +kernel)) rfl, by decide +kernel, by decide +kernel, by decide +kernel⟩
abbrev rm_Hare_share : Room := { frames := 5, cells := 0, slots := 0, locals := 118 }
theorem k_Hare_244 : Cond.constantLong R_Hare 244 (-4611686018427387904) ∈ dk_tb := dk_in (List.mem_of_getElem? (i := 851) (by decide +kernel)) rfl
theorem m_Hare_246 : Cond.methodLink R_Hare 246 y_Hare_commonDivisor ∈ dk_tb := dk_in (List.mem_of_getElem? (i := 852) (by decide +kernel)) rfl
def B_Hare_share_40 (n T : Nat)   (S : dk_S) : Option (Int64 × dk_S) :=
  some ((-4611686018427387904 : Int64), S)
set_option maxRecDepth 20000 in
theorem kb_Hare_share_40 {p : Program} {l : Launch} {e : Env} {s : State} {m : MethodId} {args : Array Value} {below : List Frame} {meth : Method} {c : Code} {g : dk_G} {A : Nat → Prop} {Q : State → Prop} {ad : Nat → Nat} {T : Nat} {n : Nat} {res : (Int64 × dk_S)} (X : dk_X p s m args meth c b_Hare_share 9 R_Hare (some .long) g A) (hR : dk_Rl p l e rm_Hare_share s m args below meth c g A Q 9 b_Hare_share (some .long) (wC g ad T) res)   {S : dk_S}  (hF : B_Hare_share_40 n T   S = some res) : dk_J p l e rm_Hare_share s m args below meth c g A Q 9 0 0 40 [] [] (wC g ad T S) := by
  unfold B_Hare_share_40 at hF
  refine dk_ldc2 (v := -4611686018427387904) X k_Hare_244 d_Hare_share_40 ?_
  exact dk_retl hR hF d_Hare_share_43
def B_Hare_share_142 (n T : Nat) (k61 : Int32 → Int32 → Int32 → Int32 → Int32 → Int32 → dk_S → Option (Int64 × dk_S)) (x1 : Int32) (x3 : Int32) (x4 : Int32) (x5 : Int32) (x6 : Int32) (x7 : Int32) (S : dk_S) : Option (Int64 × dk_S) :=
  k61 x1 x3 x4 x5 x6 (x7 + (1 : Int32)) S
set_option maxRecDepth 20000 in
theorem kb_Hare_share_142 {p : Program} {l : Launch} {e : Env} {s : State} {m : MethodId} {args : Array Value} {below : List Frame} {meth : Method} {c : Code} {g : dk_G} {A : Nat → Prop} {Q : State → Prop} {ad : Nat → Nat} {T : Nat} {n : Nat} {res : (Int64 × dk_S)} (X : dk_X p s m args meth c b_Hare_share 9 R_Hare (some .long) g A) (hR : dk_Rl p l e rm_Hare_share s m args below meth c g A Q 9 b_Hare_share (some .long) (wC g ad T) res) {k61 : Int32 → Int32 → Int32 → Int32 → Int32 → Int32 → dk_S → Option (Int64 × dk_S)} (hk61 : ∀ (x1 : Int32) (x3 : Int32) (x4 : Int32) (x5 : Int32) (x6 : Int32) (x7 : Int32)  (S : dk_S), k61 x1 x3 x4 x5 x6 x7 S = some res → dk_J p l e rm_Hare_share s m args below meth c g A Q 9 0 0 61 [(0, .ref (ad 0)), (1, .int x1), (3, .int x3), (4, .int x4), (5, .int x5), (6, .int x6), (7, .int x7)] [] (wC g ad T S)) {x1 : Int32} {x3 : Int32} {x4 : Int32} {x5 : Int32} {x6 : Int32} {x7 : Int32} {S : dk_S}  (hF : B_Hare_share_142 n T k61 x1 x3 x4 x5 x6 x7 S = some res) : dk_J p l e rm_Hare_share s m args below meth c g A Q 9 0 0 142 [(0, .ref (ad 0)), (1, .int x1), (3, .int x3), (4, .int x4), (5, .int x5), (6, .int x6), (7, .int x7)] [] (wC g ad T S) := by
  unfold B_Hare_share_142 at hF
  refine dk_iinc (i := 7) (v := (x7 + (1 : Int32))) (lv' := [(7, .int (x7 + (1 : Int32))), (0, .ref (ad 0)), (1, .int x1), (3, .int x3), (4, .int x4), (5, .int x5), (6, .int x6)]) X 6 rfl (dk_ii _ (by decide)) (by decide) rfl d_Hare_share_142 ?_
  refine dk_goto (tgt := 61) X (by decide) d_Hare_share_145 ?_
  exact dk_sub [1, 2, 3, 4, 5, 6, 0] rfl (hk61 x1 x3 x4 x5 x6 (x7 + (1 : Int32)) S hF)
def B_Hare_share_139 (n T : Nat) (k61 : Int32 → Int32 → Int32 → Int32 → Int32 → Int32 → dk_S → Option (Int64 × dk_S)) (x1 : Int32) (x3 : Int32) (x4 : Int32) (x6 : Int32) (x7 : Int32) (u0 : Int32) (u1 : Int32) (S : dk_S) : Option (Int64 × dk_S) :=
  B_Hare_share_142 n T k61 x1 x3 x4 (u0 + u1) x6 x7 S
set_option maxRecDepth 20000 in
theorem kb_Hare_share_139 {p : Program} {l : Launch} {e : Env} {s : State} {m : MethodId} {args : Array Value} {below : List Frame} {meth : Method} {c : Code} {g : dk_G} {A : Nat → Prop} {Q : State → Prop} {ad : Nat → Nat} {T : Nat} {n : Nat} {res : (Int64 × dk_S)} (X : dk_X p s m args meth c b_Hare_share 9 R_Hare (some .long) g A) (hR : dk_Rl p l e rm_Hare_share s m args below meth c g A Q 9 b_Hare_share (some .long) (wC g ad T) res) {k61 : Int32 → Int32 → Int32 → Int32 → Int32 → Int32 → dk_S → Option (Int64 × dk_S)} (hk61 : ∀ (x1 : Int32) (x3 : Int32) (x4 : Int32) (x5 : Int32) (x6 : Int32) (x7 : Int32)  (S : dk_S), k61 x1 x3 x4 x5 x6 x7 S = some res → dk_J p l e rm_Hare_share s m args below meth c g A Q 9 0 0 61 [(0, .ref (ad 0)), (1, .int x1), (3, .int x3), (4, .int x4), (5, .int x5), (6, .int x6), (7, .int x7)] [] (wC g ad T S)) {x1 : Int32} {x3 : Int32} {x4 : Int32} {x6 : Int32} {x7 : Int32} {u0 : Int32} {u1 : Int32} {S : dk_S}  (hF : B_Hare_share_139 n T k61 x1 x3 x4 x6 x7 u0 u1 S = some res) : dk_J p l e rm_Hare_share s m args below meth c g A Q 9 0 0 139 [(0, .ref (ad 0)), (1, .int x1), (3, .int x3), (4, .int x4), (6, .int x6), (7, .int x7)] [.int u1, .int u0] (wC g ad T S) := by
  unfold B_Hare_share_139 at hF
  refine dk_iadd X d_Hare_share_139 ?_
  refine dk_istore (i := 5) (lv' := [(5, .int (u0 + u1)), (0, .ref (ad 0)), (1, .int x1), (3, .int x3), (4, .int x4), (6, .int x6), (7, .int x7)]) X (by decide) rfl d_Hare_share_140 ?_
  exact dk_sub [1, 2, 3, 4, 0, 5, 6] rfl (kb_Hare_share_142 (n := n) X hR hk61  hF)
def B_Hare_share_61b (n T : Nat) (k61 : Int32 → Int32 → Int32 → Int32 → Int32 → Int32 → dk_S → Option (Int64 × dk_S)) (x1 : Int32) (x3 : Int32) (x4 : Int32) (x5 : Int32) (x6 : Int32) (x7 : Int32) (S : dk_S) : Option (Int64 × dk_S) :=
  if (S 115 0) ≤ x7 then (dk_c (F_Hare_commonDivisor n T x6 x5 S) fun r2 S1 => if ¬ r2 = 0 then (if ¬ x4 = 0 then (dk_g (¬ r2 = 0) <| some ((x6 / r2).toInt64, S1)) else (dk_g (¬ r2 = 0) <| some ((x5 / r2).toInt64, S1))) else (some (x4.toInt64, S1))) else (dk_r 44 (S 21) x7 fun v3 => if ¬ v3 = x1 then (B_Hare_share_142 n T k61 x1 x3 x4 x5 x6 x7 S) else (dk_c (F_Scene_stands n T x7 S) fun r5 S4 => if r5 = 0 then (B_Hare_share_142 n T k61 x1 x3 x4 x5 x6 x7 S4) else (dk_c (F_Scene_worth n T x7 S4) fun r7 S6 => dk_r 44 (S6 20) x7 fun v8 => if ¬ v8 = x3 then (B_Hare_share_139 n T k61 x1 x3 x4 (x6 + r7) x7 x5 (0 : Int32) S6) else (B_Hare_share_139 n T k61 x1 x3 x4 (x6 + r7) x7 x5 r7 S6))))
set_option maxRecDepth 20000 in
theorem kb_Hare_share_61b {p : Program} {l : Launch} {e : Env} {s : State} {m : MethodId} {args : Array Value} {below : List Frame} {meth : Method} {c : Code} {g : dk_G} {A : Nat → Prop} {Q : State → Prop} {ad : Nat → Nat} {T : Nat} {n : Nat} {res : (Int64 × dk_S)} (X : dk_X p s m args meth c b_Hare_share 9 R_Hare (some .long) g A) (hR : dk_Rl p l e rm_Hare_share s m args below meth c g A Q 9 b_Hare_share (some .long) (wC g ad T) res) {k61 : Int32 → Int32 → Int32 → Int32 → Int32 → Int32 → dk_S → Option (Int64 × dk_S)} (hk61 : ∀ (x1 : Int32) (x3 : Int32) (x4 : Int32) (x5 : Int32) (x6 : Int32) (x7 : Int32)  (S : dk_S), k61 x1 x3 x4 x5 x6 x7 S = some res → dk_J p l e rm_Hare_share s m args below meth c g A Q 9 0 0 61 [(0, .ref (ad 0)), (1, .int x1), (3, .int x3), (4, .int x4), (5, .int x5), (6, .int x6), (7, .int x7)] [] (wC g ad T S)) {x1 : Int32} {x3 : Int32} {x4 : Int32} {x5 : Int32} {x6 : Int32} {x7 : Int32} {S : dk_S}  (hF : B_Hare_share_61b n T k61 x1 x3 x4 x5 x6 x7 S = some res) : dk_J p l e rm_Hare_share s m args below meth c g A Q 9 0 0 61 [(0, .ref (ad 0)), (1, .int x1), (3, .int x3), (4, .int x4), (5, .int x5), (6, .int x6), (7, .int x7)] [] (wC g ad T S) := by
  unfold B_Hare_share_61b at hF
  refine dk_iload (i := 7) X 6 rfl d_Hare_share_61 ?_
  refine dk_aload_n (k := 0) (i := 0) X 0 rfl rfl d_Hare_share_63 ?_
  refine dk_get X q_Hare 0 4 (by decide) (oC_Hare g ad T S) rfl f_Hare_49 d_Hare_share_64 ?_
  refine dk_get X q_Scene 18 11 (by decide) (oC_Scene g ad T S) rfl f_Hare_169 d_Hare_share_67 ?_
  refine dk_icmp_ge (tgt := 148) X (by decide) d_Hare_share_70 hF (fun hF => ?_) (fun hF => ?_)
  · refine dk_iload (i := 6) X 5 rfl d_Hare_share_148 ?_
    refine dk_iload (i := 5) X 4 rfl d_Hare_share_150 ?_
    refine dk_callSi X v_Hare_commonDivisor [.int x6, .int x5] (c_Hare_commonDivisor l g ad T n x6 x5 S) m_Hare_246 rfl rfl ⟨rfl, rfl, Nat.le_of_ble_eq_true rfl, Nat.le_of_ble_eq_true rfl, Nat.le_refl _, Nat.le_refl _⟩ (Nat.le_of_ble_eq_true rfl) d_Hare_share_152 hF (fun r2 S1 hF => ?_)
    refine dk_istore (i := 7) (lv' := [(7, .int r2), (0, .ref (ad 0)), (1, .int x1), (3, .int x3), (4, .int x4), (5, .int x5), (6, .int x6)]) X (by decide) rfl d_Hare_share_155 ?_
    refine dk_iload (i := 7) X 0 rfl d_Hare_share_157 ?_
    refine dk_if_ne (tgt := 166) X (by decide) d_Hare_share_159 hF (fun hF => ?_) (fun hF => ?_)
    · refine dk_iload (i := 4) X 4 rfl d_Hare_share_166 ?_
      refine dk_if_ne (tgt := 180) X (by decide) d_Hare_share_168 hF (fun hF => ?_) (fun hF => ?_)
      · refine dk_iload (i := 6) X 6 rfl d_Hare_share_180 ?_
        refine dk_iload (i := 7) X 0 rfl d_Hare_share_182 ?_
        have hF0 := dk_g_out hF
        have hF := hF0.2
        refine dk_idiv X hF0.1 d_Hare_share_184 ?_
        refine dk_i2l X d_Hare_share_185 ?_
        exact dk_retl hR hF d_Hare_share_186
      · refine dk_iload (i := 5) X 5 rfl d_Hare_share_171 ?_
        refine dk_iload (i := 7) X 0 rfl d_Hare_share_173 ?_
        have hF0 := dk_g_out hF
        have hF := hF0.2
        refine dk_idiv X hF0.1 d_Hare_share_175 ?_
        refine dk_i2l X d_Hare_share_176 ?_
        refine dk_goto (tgt := 186) X (by decide) d_Hare_share_177 ?_
        exact dk_retl hR hF d_Hare_share_186
    · refine dk_iload (i := 4) X 4 rfl d_Hare_share_162 ?_
      refine dk_i2l X d_Hare_share_164 ?_
      exact dk_retl hR hF d_Hare_share_165
  · refine dk_aload_n (k := 0) (i := 0) X 0 rfl rfl d_Hare_share_73 ?_
    refine dk_get X q_Hare 0 4 (by decide) (oC_Hare g ad T S) rfl f_Hare_49 d_Hare_share_74 ?_
    refine dk_get X q_Scene 18 5 (by decide) (oC_Scene g ad T S) rfl f_Hare_177 d_Hare_share_77 ?_
    refine dk_iload (i := 7) X 6 rfl d_Hare_share_80 ?_
    refine dk_iald X 21 (aC_21 g ad T S) d_Hare_share_82 hF (fun v3 hF => ?_)
    refine dk_iload_n (k := 1) (i := 1) X 1 rfl rfl d_Hare_share_83 ?_
    refine dk_icmp_ne (tgt := 142) X (by decide) d_Hare_share_84 hF (fun hF => ?_) (fun hF => ?_)
    · exact (kb_Hare_share_142 (n := n) X hR hk61  hF)
    · refine dk_aload_n (k := 0) (i := 0) X 0 rfl rfl d_Hare_share_87 ?_
      refine dk_get X q_Hare 0 4 (by decide) (oC_Hare g ad T S) rfl f_Hare_49 d_Hare_share_88 ?_
      refine dk_iload (i := 7) X 6 rfl d_Hare_share_91 ?_
      refine dk_callVi X v_Scene_stands [.int x7] (c_Scene_stands l g ad T n x7 S) 18 (oC_Scene g ad T S) rfl rfl m_Hare_184 rfl rfl ⟨rfl, rfl, Nat.le_of_ble_eq_true rfl, Nat.le_of_ble_eq_true rfl, Nat.le_refl _, Nat.le_refl _⟩ (Nat.le_of_ble_eq_true rfl) d_Hare_share_93 hF (fun r5 S4 hF => ?_)
      refine dk_if_eq (tgt := 142) X (by decide) d_Hare_share_96 hF (fun hF => ?_) (fun hF => ?_)
      · exact (kb_Hare_share_142 (n := n) X hR hk61  hF)
      · refine dk_aload_n (k := 0) (i := 0) X 0 rfl rfl d_Hare_share_99 ?_
        refine dk_get X q_Hare 0 4 (by decide) (oC_Hare g ad T S4) rfl f_Hare_49 d_Hare_share_100 ?_
        refine dk_iload (i := 7) X 6 rfl d_Hare_share_103 ?_
        refine dk_callVi X v_Scene_worth [.int x7] (c_Scene_worth l g ad T n x7 S4) 18 (oC_Scene g ad T S4) rfl rfl m_Hare_190 rfl rfl ⟨rfl, rfl, Nat.le_of_ble_eq_true rfl, Nat.le_of_ble_eq_true rfl, Nat.le_refl _, Nat.le_refl _⟩ (Nat.le_of_ble_eq_true rfl) d_Hare_share_105 hF (fun r7 S6 hF => ?_)
        refine dk_istore (i := 8) (lv' := [(8, .int r7), (0, .ref (ad 0)), (1, .int x1), (3, .int x3), (4, .int x4), (5, .int x5), (6, .int x6), (7, .int x7)]) X (by decide) rfl d_Hare_share_108 ?_
        refine dk_iload (i := 6) X 6 rfl d_Hare_share_110 ?_
        refine dk_iload (i := 8) X 0 rfl d_Hare_share_112 ?_
        refine dk_iadd X d_Hare_share_114 ?_
        refine dk_istore (i := 6) (lv' := [(6, .int (x6 + r7)), (8, .int r7), (0, .ref (ad 0)), (1, .int x1), (3, .int x3), (4, .int x4), (5, .int x5), (7, .int x7)]) X (by decide) rfl d_Hare_share_115 ?_
        refine dk_iload (i := 5) X 6 rfl d_Hare_share_117 ?_
        refine dk_aload_n (k := 0) (i := 0) X 2 rfl rfl d_Hare_share_119 ?_
        refine dk_get X q_Hare 0 4 (by decide) (oC_Hare g ad T S6) rfl f_Hare_49 d_Hare_share_120 ?_
        refine dk_get X q_Scene 18 4 (by decide) (oC_Scene g ad T S6) rfl f_Hare_174 d_Hare_share_123 ?_
        refine dk_iload (i := 7) X 7 rfl d_Hare_share_126 ?_
        refine dk_iald X 20 (aC_20 g ad T S6) d_Hare_share_128 hF (fun v8 hF => ?_)
        refine dk_iload_n (k := 3) (i := 3) X 4 rfl rfl d_Hare_share_129 ?_
        refine dk_icmp_ne (tgt := 138) X (by decide) d_Hare_share_130 hF (fun hF => ?_) (fun hF => ?_)
        · refine dk_iconst (v := 0) X (by decide) d_Hare_share_138 ?_
          exact dk_sub [2, 3, 4, 5, 0, 7] rfl (kb_Hare_share_139 (n := n) X hR hk61  hF)
        · refine dk_iload (i := 8) X 1 rfl d_Hare_share_133 ?_
          refine dk_goto (tgt := 139) X (by decide) d_Hare_share_135 ?_
          exact dk_sub [2, 3, 4, 5, 0, 7] rfl (kb_Hare_share_139 (n := n) X hR hk61  hF)
def B_Hare_share_61 (n T : Nat)  : Nat → Int32 → Int32 → Int32 → Int32 → Int32 → Int32 → dk_S → Option (Int64 × dk_S)
  | 0 => fun _ _ _ _ _ _ _ => none
  | q + 1 => fun x1 x3 x4 x5 x6 x7 S => B_Hare_share_61b n T (fun x1 x3 x4 x5 x6 x7 S => B_Hare_share_61 n T  q x1 x3 x4 x5 x6 x7 S) x1 x3 x4 x5 x6 x7 S
theorem kb_Hare_share_61 {p : Program} {l : Launch} {e : Env} {s : State} {m : MethodId} {args : Array Value} {below : List Frame} {meth : Method} {c : Code} {g : dk_G} {A : Nat → Prop} {Q : State → Prop} {ad : Nat → Nat} {T : Nat} {n : Nat} {res : (Int64 × dk_S)} (X : dk_X p s m args meth c b_Hare_share 9 R_Hare (some .long) g A) (hR : dk_Rl p l e rm_Hare_share s m args below meth c g A Q 9 b_Hare_share (some .long) (wC g ad T) res)  : ∀ (q : Nat) (x1 : Int32) (x3 : Int32) (x4 : Int32) (x5 : Int32) (x6 : Int32) (x7 : Int32)  (S : dk_S), B_Hare_share_61 n T  q x1 x3 x4 x5 x6 x7 S = some res → dk_J p l e rm_Hare_share s m args below meth c g A Q 9 0 0 61 [(0, .ref (ad 0)), (1, .int x1), (3, .int x3), (4, .int x4), (5, .int x5), (6, .int x6), (7, .int x7)] [] (wC g ad T S) := by
  intro q
  induction q with
  | zero => intro x1 x3 x4 x5 x6 x7  S hF; cases hF
  | succ q ih => intro x1 x3 x4 x5 x6 x7  S hF; exact kb_Hare_share_61b (n := n) X hR ih  hF
def B_Hare_share_44 (n T : Nat)  (x1 : Int32) (x2 : Int32) (x3 : Int32) (x4 : Int32) (S : dk_S) : Option (Int64 × dk_S) :=
  dk_cv (F_Scene_reach n T x2 S) fun S9 => B_Hare_share_61 n T  n x1 x3 x4 (0 : Int32) (0 : Int32) (0 : Int32) S9
set_option maxRecDepth 20000 in
theorem kb_Hare_share_44 {p : Program} {l : Launch} {e : Env} {s : State} {m : MethodId} {args : Array Value} {below : List Frame} {meth : Method} {c : Code} {g : dk_G} {A : Nat → Prop} {Q : State → Prop} {ad : Nat → Nat} {T : Nat} {n : Nat} {res : (Int64 × dk_S)} (X : dk_X p s m args meth c b_Hare_share 9 R_Hare (some .long) g A) (hR : dk_Rl p l e rm_Hare_share s m args below meth c g A Q 9 b_Hare_share (some .long) (wC g ad T) res)  {x1 : Int32} {x2 : Int32} {x3 : Int32} {x4 : Int32} {S : dk_S}  (hF : B_Hare_share_44 n T  x1 x2 x3 x4 S = some res) : dk_J p l e rm_Hare_share s m args below meth c g A Q 9 0 0 44 [(0, .ref (ad 0)), (1, .int x1), (2, .int x2), (3, .int x3), (4, .int x4)] [] (wC g ad T S) := by
  unfold B_Hare_share_44 at hF
  refine dk_aload_n (k := 0) (i := 0) X 0 rfl rfl d_Hare_share_44 ?_
  refine dk_get X q_Hare 0 4 (by decide) (oC_Hare g ad T S) rfl f_Hare_49 d_Hare_share_45 ?_
  refine dk_iload_n (k := 2) (i := 2) X 2 rfl rfl d_Hare_share_48 ?_
  refine dk_callVv X v_Scene_reach [.int x2] (c_Scene_reach l g ad T n x2 S) 18 (oC_Scene g ad T S) rfl rfl m_Hare_166 rfl rfl ⟨rfl, rfl, Nat.le_of_ble_eq_true rfl, Nat.le_of_ble_eq_true rfl, Nat.le_refl _, Nat.le_refl _⟩ (Nat.le_of_ble_eq_true rfl) d_Hare_share_49 hF (fun S9 hF => ?_)
  refine dk_iconst (v := 0) X (by decide) d_Hare_share_52 ?_
  refine dk_istore (i := 5) (lv' := [(5, .int (0 : Int32)), (0, .ref (ad 0)), (1, .int x1), (2, .int x2), (3, .int x3), (4, .int x4)]) X (by decide) rfl d_Hare_share_53 ?_
  refine dk_iconst (v := 0) X (by decide) d_Hare_share_55 ?_
  refine dk_istore (i := 6) (lv' := [(6, .int (0 : Int32)), (5, .int (0 : Int32)), (0, .ref (ad 0)), (1, .int x1), (2, .int x2), (3, .int x3), (4, .int x4)]) X (by decide) rfl d_Hare_share_56 ?_
  refine dk_iconst (v := 0) X (by decide) d_Hare_share_58 ?_
  refine dk_istore (i := 7) (lv' := [(7, .int (0 : Int32)), (6, .int (0 : Int32)), (5, .int (0 : Int32)), (0, .ref (ad 0)), (1, .int x1), (2, .int x2), (3, .int x3), (4, .int x4)]) X (by decide) rfl d_Hare_share_59 ?_
  exact dk_sub [3, 4, 6, 7, 2, 1, 0] rfl (kb_Hare_share_61 (n := n) X hR  n x1 x3 x4 (0 : Int32) (0 : Int32) (0 : Int32) S9 hF)
def B_Hare_share_0 (n T : Nat)  (x1 : Int32) (x2 : Int32) (x3 : Int32) (x4 : Int32) (S : dk_S) : Option (Int64 × dk_S) :=
  dk_c (F_Land_hasBeast n T x1 S) fun r12 S11 => if r12 = 0 then (B_Hare_share_40 n T  S11) else (dk_c (F_Diary_reaches n T x2 S11) fun r14 S13 => if r14 = 0 then (B_Hare_share_40 n T  S13) else (dk_c (F_Hare_isOne n T x3 S13) fun r16 S15 => if r16 = 0 then (B_Hare_share_40 n T  S15) else (if x4 = 0 then (B_Hare_share_44 n T  x1 x2 x3 x4 S15) else (if x4 = (1 : Int32) then (B_Hare_share_44 n T  x1 x2 x3 x4 S15) else (B_Hare_share_40 n T  S15)))))
set_option maxRecDepth 20000 in
theorem kb_Hare_share_0 {p : Program} {l : Launch} {e : Env} {s : State} {m : MethodId} {args : Array Value} {below : List Frame} {meth : Method} {c : Code} {g : dk_G} {A : Nat → Prop} {Q : State → Prop} {ad : Nat → Nat} {T : Nat} {n : Nat} {res : (Int64 × dk_S)} (X : dk_X p s m args meth c b_Hare_share 9 R_Hare (some .long) g A) (hR : dk_Rl p l e rm_Hare_share s m args below meth c g A Q 9 b_Hare_share (some .long) (wC g ad T) res)  {x1 : Int32} {x2 : Int32} {x3 : Int32} {x4 : Int32} {S : dk_S}  (hF : B_Hare_share_0 n T  x1 x2 x3 x4 S = some res) : dk_J p l e rm_Hare_share s m args below meth c g A Q 9 0 0 0 [(0, .ref (ad 0)), (1, .int x1), (2, .int x2), (3, .int x3), (4, .int x4)] [] (wC g ad T S) := by
  unfold B_Hare_share_0 at hF
  refine dk_aload_n (k := 0) (i := 0) X 0 rfl rfl d_Hare_share_0 ?_
  refine dk_get X q_Hare 0 0 (by decide) (oC_Hare g ad T S) rfl f_Hare_10 d_Hare_share_1 ?_
  refine dk_iload_n (k := 1) (i := 1) X 1 rfl rfl d_Hare_share_4 ?_
  refine dk_callVi X v_Land_hasBeast [.int x1] (c_Land_hasBeast l g ad T n x1 S) 1 (oC_Land g ad T S) rfl rfl m_Hare_97 rfl rfl ⟨rfl, rfl, Nat.le_of_ble_eq_true rfl, Nat.le_of_ble_eq_true rfl, Nat.le_refl _, Nat.le_refl _⟩ (Nat.le_of_ble_eq_true rfl) d_Hare_share_5 hF (fun r12 S11 hF => ?_)
  refine dk_if_eq (tgt := 40) X (by decide) d_Hare_share_8 hF (fun hF => ?_) (fun hF => ?_)
  · exact dk_sub [] rfl (kb_Hare_share_40 (n := n) X hR   hF)
  · refine dk_aload_n (k := 0) (i := 0) X 0 rfl rfl d_Hare_share_11 ?_
    refine dk_get X q_Hare 0 1 (by decide) (oC_Hare g ad T S11) rfl f_Hare_19 d_Hare_share_12 ?_
    refine dk_iload_n (k := 2) (i := 2) X 2 rfl rfl d_Hare_share_15 ?_
    refine dk_callVi X v_Diary_reaches [.int x2] (c_Diary_reaches l g ad T n x2 S11) 5 (oC_Diary g ad T S11) rfl rfl m_Hare_163 rfl rfl ⟨rfl, rfl, Nat.le_of_ble_eq_true rfl, Nat.le_of_ble_eq_true rfl, Nat.le_refl _, Nat.le_refl _⟩ (Nat.le_of_ble_eq_true rfl) d_Hare_share_16 hF (fun r14 S13 hF => ?_)
    refine dk_if_eq (tgt := 40) X (by decide) d_Hare_share_19 hF (fun hF => ?_) (fun hF => ?_)
    · exact dk_sub [] rfl (kb_Hare_share_40 (n := n) X hR   hF)
    · refine dk_iload_n (k := 3) (i := 3) X 3 rfl rfl d_Hare_share_22 ?_
      refine dk_callSi X v_Hare_isOne [.int x3] (c_Hare_isOne l g ad T n x3 S13) m_Hare_104 rfl rfl ⟨rfl, rfl, Nat.le_of_ble_eq_true rfl, Nat.le_of_ble_eq_true rfl, Nat.le_refl _, Nat.le_refl _⟩ (Nat.le_of_ble_eq_true rfl) d_Hare_share_23 hF (fun r16 S15 hF => ?_)
      refine dk_if_eq (tgt := 40) X (by decide) d_Hare_share_26 hF (fun hF => ?_) (fun hF => ?_)
      · exact dk_sub [] rfl (kb_Hare_share_40 (n := n) X hR   hF)
      · refine dk_iload (i := 4) X 4 rfl d_Hare_share_29 ?_
        refine dk_if_eq (tgt := 44) X (by decide) d_Hare_share_31 hF (fun hF => ?_) (fun hF => ?_)
        · exact (kb_Hare_share_44 (n := n) X hR   hF)
        · refine dk_iload (i := 4) X 4 rfl d_Hare_share_34 ?_
          refine dk_iconst (v := 1) X (by decide) d_Hare_share_36 ?_
          refine dk_icmp_eq (tgt := 44) X (by decide) d_Hare_share_37 hF (fun hF => ?_) (fun hF => ?_)
          · exact (kb_Hare_share_44 (n := n) X hR   hF)
          · exact dk_sub [] rfl (kb_Hare_share_40 (n := n) X hR   hF)
def F_Hare_share (n T : Nat) (x1 : Int32) (x2 : Int32) (x3 : Int32) (x4 : Int32) (S : dk_S) : Option (Int64 × dk_S) := B_Hare_share_0 n T x1 x2 x3 x4 S
theorem c_Hare_share (l : Launch) (g : dk_G) (ad : Nat → Nat) (T n : Nat) (x1 : Int32) (x2 : Int32) (x3 : Int32) (x4 : Int32)  (S : dk_S) : dk_Ml l g y_Hare_share b_Hare_share 9 rm_Hare_share (some .long) [.ref (ad 0), .int x1, .int x2, .int x3, .int x4] (wC g ad T) S (F_Hare_share n T x1 x2 x3 x4 S) := dk_enterl (by decide) rfl (Nat.le_of_ble_eq_true rfl) (fun p e s m args below meth c A Q res hF X hR => (kb_Hare_share_0 (n := n) X hR  hF))
abbrev b_Hare_quarrel : ByteArray := prog_1_method_24_code
def y_Hare_quarrel : MethodName := ⟨R_Hare, "quarrel", "(I)I"⟩
theorem d_Hare_quarrel_0 : decode b_Hare_quarrel 0 = .ok (.aload_n 0, 1) := by decide +kernel
theorem d_Hare_quarrel_1 : decode b_Hare_quarrel 1 = .ok (.getfield 10, 3) := by decide +kernel
theorem d_Hare_quarrel_4 : decode b_Hare_quarrel 4 = .ok (.iload_n 1, 1) := by decide +kernel
theorem d_Hare_quarrel_5 : decode b_Hare_quarrel 5 = .ok (.invokevirtual 97, 3) := by decide +kernel
theorem d_Hare_quarrel_8 : decode b_Hare_quarrel 8 = .ok (.ifCond .ne 6, 3) := by decide +kernel
theorem d_Hare_quarrel_11 : decode b_Hare_quarrel 11 = .ok (.bipush (-5), 2) := by decide +kernel
theorem d_Hare_quarrel_13 : decode b_Hare_quarrel 13 = .ok (.ireturn, 1) := by decide +kernel
theorem d_Hare_quarrel_14 : decode b_Hare_quarrel 14 = .ok (.aload_n 0, 1) := by decide +kernel
theorem d_Hare_quarrel_15 : decode b_Hare_quarrel 15 = .ok (.getfield 49, 3) := by decide +kernel
theorem d_Hare_quarrel_18 : decode b_Hare_quarrel 18 = .ok (.iload_n 1, 1) := by decide +kernel
theorem d_Hare_quarrel_19 : decode b_Hare_quarrel 19 = .ok (.invokevirtual 212, 3) := by decide +kernel
theorem d_Hare_quarrel_22 : decode b_Hare_quarrel 22 = .ok (.aload_n 0, 1) := by decide +kernel
theorem d_Hare_quarrel_23 : decode b_Hare_quarrel 23 = .ok (.getfield 49, 3) := by decide +kernel
theorem d_Hare_quarrel_26 : decode b_Hare_quarrel 26 = .ok (.getfield 249, 3) := by decide +kernel
theorem d_Hare_quarrel_29 : decode b_Hare_quarrel 29 = .ok (.ireturn, 1) := by decide +kernel
theorem v_Hare_quarrel : dk_Yv y_Hare_quarrel b_Hare_quarrel 2 (some .int) 1 := ⟨dk_in (List.mem_of_getElem? (i := 856) (by decide +kernel)) rfl, dk_in (List.mem_of_getElem? (i := 857) (by decide +kernel)) rfl, dk_in (List.mem_of_getElem? (i := 66) (by decide +kernel)) rfl, dk_in (List.mem_of_getElem? (i := 858) (by decide +kernel)) rfl, by decide +kernel, by decide +kernel, by decide +kernel⟩
abbrev rm_Hare_quarrel : Room := { frames := 6, cells := 0, slots := 0, locals := 138 }
theorem f_Hare_249 : Cond.fieldLink R_Hare 249 (T_Scene 18).1 (T_Scene 18).2.1 (T_Scene 18).2.2.1 ∈ dk_tb := dk_in (List.mem_of_getElem? (i := 278) (by decide +kernel)) rfl
def B_Hare_quarrel_0 (n T : Nat)  (x1 : Int32) (S : dk_S) : Option (Int32 × dk_S) :=
  dk_c (F_Land_hasBeast n T x1 S) fun r2 S1 => if ¬ r2 = 0 then (dk_cv (F_Scene_tally n T x1 S1) fun S3 => some ((S3 119 0), S3)) else (some ((-5 : Int32), S1))
set_option maxRecDepth 20000 in
theorem kb_Hare_quarrel_0 {p : Program} {l : Launch} {e : Env} {s : State} {m : MethodId} {args : Array Value} {below : List Frame} {meth : Method} {c : Code} {g : dk_G} {A : Nat → Prop} {Q : State → Prop} {ad : Nat → Nat} {T : Nat} {n : Nat} {res : (Int32 × dk_S)} (X : dk_X p s m args meth c b_Hare_quarrel 2 R_Hare (some .int) g A) (hR : dk_Ri p l e rm_Hare_quarrel s m args below meth c g A Q 2 b_Hare_quarrel (some .int) (wC g ad T) res)  {x1 : Int32} {S : dk_S}  (hF : B_Hare_quarrel_0 n T  x1 S = some res) : dk_J p l e rm_Hare_quarrel s m args below meth c g A Q 2 0 0 0 [(0, .ref (ad 0)), (1, .int x1)] [] (wC g ad T S) := by
  unfold B_Hare_quarrel_0 at hF
  refine dk_aload_n (k := 0) (i := 0) X 0 rfl rfl d_Hare_quarrel_0 ?_
  refine dk_get X q_Hare 0 0 (by decide) (oC_Hare g ad T S) rfl f_Hare_10 d_Hare_quarrel_1 ?_
  refine dk_iload_n (k := 1) (i := 1) X 1 rfl rfl d_Hare_quarrel_4 ?_
  refine dk_callVi X v_Land_hasBeast [.int x1] (c_Land_hasBeast l g ad T n x1 S) 1 (oC_Land g ad T S) rfl rfl m_Hare_97 rfl rfl ⟨rfl, rfl, Nat.le_of_ble_eq_true rfl, Nat.le_of_ble_eq_true rfl, Nat.le_refl _, Nat.le_refl _⟩ (Nat.le_of_ble_eq_true rfl) d_Hare_quarrel_5 hF (fun r2 S1 hF => ?_)
  refine dk_if_ne (tgt := 14) X (by decide) d_Hare_quarrel_8 hF (fun hF => ?_) (fun hF => ?_)
  · refine dk_aload_n (k := 0) (i := 0) X 0 rfl rfl d_Hare_quarrel_14 ?_
    refine dk_get X q_Hare 0 4 (by decide) (oC_Hare g ad T S1) rfl f_Hare_49 d_Hare_quarrel_15 ?_
    refine dk_iload_n (k := 1) (i := 1) X 1 rfl rfl d_Hare_quarrel_18 ?_
    refine dk_callVv X v_Scene_tally [.int x1] (c_Scene_tally l g ad T n x1 S1) 18 (oC_Scene g ad T S1) rfl rfl m_Hare_212 rfl rfl ⟨rfl, rfl, Nat.le_of_ble_eq_true rfl, Nat.le_of_ble_eq_true rfl, Nat.le_refl _, Nat.le_refl _⟩ (Nat.le_of_ble_eq_true rfl) d_Hare_quarrel_19 hF (fun S3 hF => ?_)
    refine dk_aload_n (k := 0) (i := 0) X 0 rfl rfl d_Hare_quarrel_22 ?_
    refine dk_get X q_Hare 0 4 (by decide) (oC_Hare g ad T S3) rfl f_Hare_49 d_Hare_quarrel_23 ?_
    refine dk_get X q_Scene 18 18 (by decide) (oC_Scene g ad T S3) rfl f_Hare_249 d_Hare_quarrel_26 ?_
    exact dk_reti hR hF d_Hare_quarrel_29
  · refine dk_bipush (v := -5) X (by decide) d_Hare_quarrel_11 ?_
    exact dk_reti hR hF d_Hare_quarrel_13
def F_Hare_quarrel (n T : Nat) (x1 : Int32) (S : dk_S) : Option (Int32 × dk_S) := B_Hare_quarrel_0 n T x1 S
theorem c_Hare_quarrel (l : Launch) (g : dk_G) (ad : Nat → Nat) (T n : Nat) (x1 : Int32)  (S : dk_S) : dk_Mi l g y_Hare_quarrel b_Hare_quarrel 2 rm_Hare_quarrel (some .int) [.ref (ad 0), .int x1] (wC g ad T) S (F_Hare_quarrel n T x1 S) := dk_enteri (by decide) (Nat.le_of_ble_eq_true rfl) (fun p e s m args below meth c A Q res hF X hR => (kb_Hare_quarrel_0 (n := n) X hR  hF))
abbrev b_Hare_custom : ByteArray := prog_1_method_25_code
def y_Hare_custom : MethodName := ⟨R_Hare, "custom", "(I)I"⟩
theorem d_Hare_custom_0 : decode b_Hare_custom 0 = .ok (.aload_n 0, 1) := by decide +kernel
theorem d_Hare_custom_1 : decode b_Hare_custom 1 = .ok (.getfield 10, 3) := by decide +kernel
theorem d_Hare_custom_4 : decode b_Hare_custom 4 = .ok (.iload_n 1, 1) := by decide +kernel
theorem d_Hare_custom_5 : decode b_Hare_custom 5 = .ok (.invokevirtual 97, 3) := by decide +kernel
theorem d_Hare_custom_8 : decode b_Hare_custom 8 = .ok (.ifCond .ne 6, 3) := by decide +kernel
theorem d_Hare_custom_11 : decode b_Hare_custom 11 = .ok (.bipush (-5), 2) := by decide +kernel
theorem d_Hare_custom_13 : decode b_Hare_custom 13 = .ok (.ireturn, 1) := by decide +kernel
theorem d_Hare_custom_14 : decode b_Hare_custom 14 = .ok (.iconst 0, 1) := by decide +kernel
theorem d_Hare_custom_15 : decode b_Hare_custom 15 = .ok (.istore_n 2, 1) := by decide +kernel
theorem d_Hare_custom_16 : decode b_Hare_custom 16 = .ok (.iconst 0, 1) := by decide +kernel
theorem d_Hare_custom_17 : decode b_Hare_custom 17 = .ok (.istore_n 3, 1) := by decide +kernel
theorem d_Hare_custom_18 : decode b_Hare_custom 18 = .ok (.iconst 0, 1) := by decide +kernel
theorem d_Hare_custom_19 : decode b_Hare_custom 19 = .ok (.istore 4, 2) := by decide +kernel
theorem d_Hare_custom_21 : decode b_Hare_custom 21 = .ok (.iconst 0, 1) := by decide +kernel
theorem d_Hare_custom_22 : decode b_Hare_custom 22 = .ok (.istore 5, 2) := by decide +kernel
theorem d_Hare_custom_24 : decode b_Hare_custom 24 = .ok (.iload 5, 2) := by decide +kernel
theorem d_Hare_custom_26 : decode b_Hare_custom 26 = .ok (.aload_n 0, 1) := by decide +kernel
theorem d_Hare_custom_27 : decode b_Hare_custom 27 = .ok (.getfield 57, 3) := by decide +kernel
theorem d_Hare_custom_30 : decode b_Hare_custom 30 = .ok (.if_icmp .ge 94, 3) := by decide +kernel
theorem d_Hare_custom_33 : decode b_Hare_custom 33 = .ok (.aload_n 0, 1) := by decide +kernel
theorem d_Hare_custom_34 : decode b_Hare_custom 34 = .ok (.iload 5, 2) := by decide +kernel
theorem d_Hare_custom_36 : decode b_Hare_custom 36 = .ok (.invokevirtual 155, 3) := by decide +kernel
theorem d_Hare_custom_39 : decode b_Hare_custom 39 = .ok (.aload_n 0, 1) := by decide +kernel
theorem d_Hare_custom_40 : decode b_Hare_custom 40 = .ok (.getfield 49, 3) := by decide +kernel
theorem d_Hare_custom_43 : decode b_Hare_custom 43 = .ok (.iload_n 1, 1) := by decide +kernel
theorem d_Hare_custom_44 : decode b_Hare_custom 44 = .ok (.invokevirtual 212, 3) := by decide +kernel
theorem d_Hare_custom_47 : decode b_Hare_custom 47 = .ok (.aload_n 0, 1) := by decide +kernel
theorem d_Hare_custom_48 : decode b_Hare_custom 48 = .ok (.getfield 49, 3) := by decide +kernel
theorem d_Hare_custom_51 : decode b_Hare_custom 51 = .ok (.getfield 249, 3) := by decide +kernel
theorem d_Hare_custom_54 : decode b_Hare_custom 54 = .ok (.iload_n 3, 1) := by decide +kernel
theorem d_Hare_custom_55 : decode b_Hare_custom 55 = .ok (.if_icmp .lt 26, 3) := by decide +kernel
theorem d_Hare_custom_58 : decode b_Hare_custom 58 = .ok (.aload_n 0, 1) := by decide +kernel
theorem d_Hare_custom_59 : decode b_Hare_custom 59 = .ok (.getfield 49, 3) := by decide +kernel
theorem d_Hare_custom_62 : decode b_Hare_custom 62 = .ok (.getfield 249, 3) := by decide +kernel
theorem d_Hare_custom_65 : decode b_Hare_custom 65 = .ok (.iload_n 3, 1) := by decide +kernel
theorem d_Hare_custom_66 : decode b_Hare_custom 66 = .ok (.if_icmp .ne 19, 3) := by decide +kernel
theorem d_Hare_custom_69 : decode b_Hare_custom 69 = .ok (.aload_n 0, 1) := by decide +kernel
theorem d_Hare_custom_70 : decode b_Hare_custom 70 = .ok (.getfield 49, 3) := by decide +kernel
theorem d_Hare_custom_73 : decode b_Hare_custom 73 = .ok (.getfield 215, 3) := by decide +kernel
theorem d_Hare_custom_76 : decode b_Hare_custom 76 = .ok (.iload 4, 2) := by decide +kernel
theorem d_Hare_custom_78 : decode b_Hare_custom 78 = .ok (.if_icmp .ge 7, 3) := by decide +kernel
theorem d_Hare_custom_81 : decode b_Hare_custom 81 = .ok (.iconst 1, 1) := by decide +kernel
theorem d_Hare_custom_82 : decode b_Hare_custom 82 = .ok (.goto 4, 3) := by decide +kernel
theorem d_Hare_custom_85 : decode b_Hare_custom 85 = .ok (.iconst 0, 1) := by decide +kernel
theorem d_Hare_custom_86 : decode b_Hare_custom 86 = .ok (.istore 6, 2) := by decide +kernel
theorem d_Hare_custom_88 : decode b_Hare_custom 88 = .ok (.iload 5, 2) := by decide +kernel
theorem d_Hare_custom_90 : decode b_Hare_custom 90 = .ok (.ifCond .eq 8, 3) := by decide +kernel
theorem d_Hare_custom_93 : decode b_Hare_custom 93 = .ok (.iload 6, 2) := by decide +kernel
theorem d_Hare_custom_95 : decode b_Hare_custom 95 = .ok (.ifCond .eq 23, 3) := by decide +kernel
theorem d_Hare_custom_98 : decode b_Hare_custom 98 = .ok (.iload 5, 2) := by decide +kernel
theorem d_Hare_custom_100 : decode b_Hare_custom 100 = .ok (.istore_n 2, 1) := by decide +kernel
theorem d_Hare_custom_101 : decode b_Hare_custom 101 = .ok (.aload_n 0, 1) := by decide +kernel
theorem d_Hare_custom_102 : decode b_Hare_custom 102 = .ok (.getfield 49, 3) := by decide +kernel
theorem d_Hare_custom_105 : decode b_Hare_custom 105 = .ok (.getfield 249, 3) := by decide +kernel
theorem d_Hare_custom_108 : decode b_Hare_custom 108 = .ok (.istore_n 3, 1) := by decide +kernel
theorem d_Hare_custom_109 : decode b_Hare_custom 109 = .ok (.aload_n 0, 1) := by decide +kernel
theorem d_Hare_custom_110 : decode b_Hare_custom 110 = .ok (.getfield 49, 3) := by decide +kernel
theorem d_Hare_custom_113 : decode b_Hare_custom 113 = .ok (.getfield 215, 3) := by decide +kernel
theorem d_Hare_custom_116 : decode b_Hare_custom 116 = .ok (.istore 4, 2) := by decide +kernel
theorem d_Hare_custom_118 : decode b_Hare_custom 118 = .ok (.iinc 5 1, 3) := by decide +kernel
theorem d_Hare_custom_121 : decode b_Hare_custom 121 = .ok (.goto (-97), 3) := by decide +kernel
theorem d_Hare_custom_124 : decode b_Hare_custom 124 = .ok (.aload_n 0, 1) := by decide +kernel
theorem d_Hare_custom_125 : decode b_Hare_custom 125 = .ok (.aload_n 0, 1) := by decide +kernel
theorem d_Hare_custom_126 : decode b_Hare_custom 126 = .ok (.getfield 61, 3) := by decide +kernel
theorem d_Hare_custom_129 : decode b_Hare_custom 129 = .ok (.invokevirtual 155, 3) := by decide +kernel
theorem d_Hare_custom_132 : decode b_Hare_custom 132 = .ok (.iload_n 2, 1) := by decide +kernel
theorem d_Hare_custom_133 : decode b_Hare_custom 133 = .ok (.ireturn, 1) := by decide +kernel
theorem v_Hare_custom : dk_Yv y_Hare_custom b_Hare_custom 7 (some .int) 1 := ⟨dk_in (List.mem_of_getElem? (i := 860) (by decide +kernel)) rfl, dk_in (List.mem_of_getElem? (i := 861) (by decide +kernel)) rfl, dk_in (List.mem_of_getElem? (i := 66) (by decide +kernel)) rfl, dk_in (List.mem_of_getElem? (i := 862) (by decide +kernel)) rfl, by decide +kernel, by decide +kernel, by decide +kernel⟩
abbrev rm_Hare_custom : Room := { frames := 6, cells := 0, slots := 0, locals := 138 }
def B_Hare_custom_118 (n T : Nat) (k24 : Int32 → Int32 → Int32 → Int32 → Int32 → dk_S → Option (Int32 × dk_S)) (x1 : Int32) (x2 : Int32) (x3 : Int32) (x4 : Int32) (x5 : Int32) (S : dk_S) : Option (Int32 × dk_S) :=
  k24 x1 x2 x3 x4 (x5 + (1 : Int32)) S
set_option maxRecDepth 20000 in
theorem kb_Hare_custom_118 {p : Program} {l : Launch} {e : Env} {s : State} {m : MethodId} {args : Array Value} {below : List Frame} {meth : Method} {c : Code} {g : dk_G} {A : Nat → Prop} {Q : State → Prop} {ad : Nat → Nat} {T : Nat} {n : Nat} {res : (Int32 × dk_S)} (X : dk_X p s m args meth c b_Hare_custom 7 R_Hare (some .int) g A) (hR : dk_Ri p l e rm_Hare_custom s m args below meth c g A Q 7 b_Hare_custom (some .int) (wC g ad T) res) {k24 : Int32 → Int32 → Int32 → Int32 → Int32 → dk_S → Option (Int32 × dk_S)} (hk24 : ∀ (x1 : Int32) (x2 : Int32) (x3 : Int32) (x4 : Int32) (x5 : Int32)  (S : dk_S), k24 x1 x2 x3 x4 x5 S = some res → dk_J p l e rm_Hare_custom s m args below meth c g A Q 7 0 0 24 [(0, .ref (ad 0)), (1, .int x1), (2, .int x2), (3, .int x3), (4, .int x4), (5, .int x5)] [] (wC g ad T S)) {x1 : Int32} {x2 : Int32} {x3 : Int32} {x4 : Int32} {x5 : Int32} {S : dk_S}  (hF : B_Hare_custom_118 n T k24 x1 x2 x3 x4 x5 S = some res) : dk_J p l e rm_Hare_custom s m args below meth c g A Q 7 0 0 118 [(0, .ref (ad 0)), (1, .int x1), (2, .int x2), (3, .int x3), (4, .int x4), (5, .int x5)] [] (wC g ad T S) := by
  unfold B_Hare_custom_118 at hF
  refine dk_iinc (i := 5) (v := (x5 + (1 : Int32))) (lv' := [(5, .int (x5 + (1 : Int32))), (0, .ref (ad 0)), (1, .int x1), (2, .int x2), (3, .int x3), (4, .int x4)]) X 5 rfl (dk_ii _ (by decide)) (by decide) rfl d_Hare_custom_118 ?_
  refine dk_goto (tgt := 24) X (by decide) d_Hare_custom_121 ?_
  exact dk_sub [1, 2, 3, 4, 5, 0] rfl (hk24 x1 x2 x3 x4 (x5 + (1 : Int32)) S hF)
def B_Hare_custom_98 (n T : Nat) (k24 : Int32 → Int32 → Int32 → Int32 → Int32 → dk_S → Option (Int32 × dk_S)) (x1 : Int32) (x5 : Int32) (S : dk_S) : Option (Int32 × dk_S) :=
  B_Hare_custom_118 n T k24 x1 x5 (S 119 0) (S 120 0) x5 S
set_option maxRecDepth 20000 in
theorem kb_Hare_custom_98 {p : Program} {l : Launch} {e : Env} {s : State} {m : MethodId} {args : Array Value} {below : List Frame} {meth : Method} {c : Code} {g : dk_G} {A : Nat → Prop} {Q : State → Prop} {ad : Nat → Nat} {T : Nat} {n : Nat} {res : (Int32 × dk_S)} (X : dk_X p s m args meth c b_Hare_custom 7 R_Hare (some .int) g A) (hR : dk_Ri p l e rm_Hare_custom s m args below meth c g A Q 7 b_Hare_custom (some .int) (wC g ad T) res) {k24 : Int32 → Int32 → Int32 → Int32 → Int32 → dk_S → Option (Int32 × dk_S)} (hk24 : ∀ (x1 : Int32) (x2 : Int32) (x3 : Int32) (x4 : Int32) (x5 : Int32)  (S : dk_S), k24 x1 x2 x3 x4 x5 S = some res → dk_J p l e rm_Hare_custom s m args below meth c g A Q 7 0 0 24 [(0, .ref (ad 0)), (1, .int x1), (2, .int x2), (3, .int x3), (4, .int x4), (5, .int x5)] [] (wC g ad T S)) {x1 : Int32} {x5 : Int32} {S : dk_S}  (hF : B_Hare_custom_98 n T k24 x1 x5 S = some res) : dk_J p l e rm_Hare_custom s m args below meth c g A Q 7 0 0 98 [(0, .ref (ad 0)), (1, .int x1), (5, .int x5)] [] (wC g ad T S) := by
  unfold B_Hare_custom_98 at hF
  refine dk_iload (i := 5) X 2 rfl d_Hare_custom_98 ?_
  refine dk_istore_n (k := 2) (i := 2) (lv' := [(2, .int x5), (0, .ref (ad 0)), (1, .int x1), (5, .int x5)]) X rfl (by decide) rfl d_Hare_custom_100 ?_
  refine dk_aload_n (k := 0) (i := 0) X 1 rfl rfl d_Hare_custom_101 ?_
  refine dk_get X q_Hare 0 4 (by decide) (oC_Hare g ad T S) rfl f_Hare_49 d_Hare_custom_102 ?_
  refine dk_get X q_Scene 18 18 (by decide) (oC_Scene g ad T S) rfl f_Hare_249 d_Hare_custom_105 ?_
  refine dk_istore_n (k := 3) (i := 3) (lv' := [(3, .int (S 119 0)), (2, .int x5), (0, .ref (ad 0)), (1, .int x1), (5, .int x5)]) X rfl (by decide) rfl d_Hare_custom_108 ?_
  refine dk_aload_n (k := 0) (i := 0) X 2 rfl rfl d_Hare_custom_109 ?_
  refine dk_get X q_Hare 0 4 (by decide) (oC_Hare g ad T S) rfl f_Hare_49 d_Hare_custom_110 ?_
  refine dk_get X q_Scene 18 19 (by decide) (oC_Scene g ad T S) rfl f_Hare_215 d_Hare_custom_113 ?_
  refine dk_istore (i := 4) (lv' := [(4, .int (S 120 0)), (3, .int (S 119 0)), (2, .int x5), (0, .ref (ad 0)), (1, .int x1), (5, .int x5)]) X (by decide) rfl d_Hare_custom_116 ?_
  exact dk_sub [3, 4, 2, 1, 0, 5] rfl (kb_Hare_custom_118 (n := n) X hR hk24  hF)
def B_Hare_custom_86 (n T : Nat) (k24 : Int32 → Int32 → Int32 → Int32 → Int32 → dk_S → Option (Int32 × dk_S)) (x1 : Int32) (x2 : Int32) (x3 : Int32) (x4 : Int32) (x5 : Int32) (u0 : Int32) (S : dk_S) : Option (Int32 × dk_S) :=
  if x5 = 0 then (B_Hare_custom_98 n T k24 x1 x5 S) else (if u0 = 0 then (B_Hare_custom_118 n T k24 x1 x2 x3 x4 x5 S) else (B_Hare_custom_98 n T k24 x1 x5 S))
set_option maxRecDepth 20000 in
theorem kb_Hare_custom_86 {p : Program} {l : Launch} {e : Env} {s : State} {m : MethodId} {args : Array Value} {below : List Frame} {meth : Method} {c : Code} {g : dk_G} {A : Nat → Prop} {Q : State → Prop} {ad : Nat → Nat} {T : Nat} {n : Nat} {res : (Int32 × dk_S)} (X : dk_X p s m args meth c b_Hare_custom 7 R_Hare (some .int) g A) (hR : dk_Ri p l e rm_Hare_custom s m args below meth c g A Q 7 b_Hare_custom (some .int) (wC g ad T) res) {k24 : Int32 → Int32 → Int32 → Int32 → Int32 → dk_S → Option (Int32 × dk_S)} (hk24 : ∀ (x1 : Int32) (x2 : Int32) (x3 : Int32) (x4 : Int32) (x5 : Int32)  (S : dk_S), k24 x1 x2 x3 x4 x5 S = some res → dk_J p l e rm_Hare_custom s m args below meth c g A Q 7 0 0 24 [(0, .ref (ad 0)), (1, .int x1), (2, .int x2), (3, .int x3), (4, .int x4), (5, .int x5)] [] (wC g ad T S)) {x1 : Int32} {x2 : Int32} {x3 : Int32} {x4 : Int32} {x5 : Int32} {u0 : Int32} {S : dk_S}  (hF : B_Hare_custom_86 n T k24 x1 x2 x3 x4 x5 u0 S = some res) : dk_J p l e rm_Hare_custom s m args below meth c g A Q 7 0 0 86 [(0, .ref (ad 0)), (1, .int x1), (2, .int x2), (3, .int x3), (4, .int x4), (5, .int x5)] [.int u0] (wC g ad T S) := by
  unfold B_Hare_custom_86 at hF
  refine dk_istore (i := 6) (lv' := [(6, .int u0), (0, .ref (ad 0)), (1, .int x1), (2, .int x2), (3, .int x3), (4, .int x4), (5, .int x5)]) X (by decide) rfl d_Hare_custom_86 ?_
  refine dk_iload (i := 5) X 6 rfl d_Hare_custom_88 ?_
  refine dk_if_eq (tgt := 98) X (by decide) d_Hare_custom_90 hF (fun hF => ?_) (fun hF => ?_)
  · exact dk_sub [1, 2, 6] rfl (kb_Hare_custom_98 (n := n) X hR hk24  hF)
  · refine dk_iload (i := 6) X 0 rfl d_Hare_custom_93 ?_
    refine dk_if_eq (tgt := 118) X (by decide) d_Hare_custom_95 hF (fun hF => ?_) (fun hF => ?_)
    · exact dk_sub [1, 2, 3, 4, 5, 6] rfl (kb_Hare_custom_118 (n := n) X hR hk24  hF)
    · exact dk_sub [1, 2, 6] rfl (kb_Hare_custom_98 (n := n) X hR hk24  hF)
def B_Hare_custom_81 (n T : Nat) (k24 : Int32 → Int32 → Int32 → Int32 → Int32 → dk_S → Option (Int32 × dk_S)) (x1 : Int32) (x2 : Int32) (x3 : Int32) (x4 : Int32) (x5 : Int32) (S : dk_S) : Option (Int32 × dk_S) :=
  B_Hare_custom_86 n T k24 x1 x2 x3 x4 x5 (1 : Int32) S
set_option maxRecDepth 20000 in
theorem kb_Hare_custom_81 {p : Program} {l : Launch} {e : Env} {s : State} {m : MethodId} {args : Array Value} {below : List Frame} {meth : Method} {c : Code} {g : dk_G} {A : Nat → Prop} {Q : State → Prop} {ad : Nat → Nat} {T : Nat} {n : Nat} {res : (Int32 × dk_S)} (X : dk_X p s m args meth c b_Hare_custom 7 R_Hare (some .int) g A) (hR : dk_Ri p l e rm_Hare_custom s m args below meth c g A Q 7 b_Hare_custom (some .int) (wC g ad T) res) {k24 : Int32 → Int32 → Int32 → Int32 → Int32 → dk_S → Option (Int32 × dk_S)} (hk24 : ∀ (x1 : Int32) (x2 : Int32) (x3 : Int32) (x4 : Int32) (x5 : Int32)  (S : dk_S), k24 x1 x2 x3 x4 x5 S = some res → dk_J p l e rm_Hare_custom s m args below meth c g A Q 7 0 0 24 [(0, .ref (ad 0)), (1, .int x1), (2, .int x2), (3, .int x3), (4, .int x4), (5, .int x5)] [] (wC g ad T S)) {x1 : Int32} {x2 : Int32} {x3 : Int32} {x4 : Int32} {x5 : Int32} {S : dk_S}  (hF : B_Hare_custom_81 n T k24 x1 x2 x3 x4 x5 S = some res) : dk_J p l e rm_Hare_custom s m args below meth c g A Q 7 0 0 81 [(0, .ref (ad 0)), (1, .int x1), (2, .int x2), (3, .int x3), (4, .int x4), (5, .int x5)] [] (wC g ad T S) := by
  unfold B_Hare_custom_81 at hF
  refine dk_iconst (v := 1) X (by decide) d_Hare_custom_81 ?_
  refine dk_goto (tgt := 86) X (by decide) d_Hare_custom_82 ?_
  exact (kb_Hare_custom_86 (n := n) X hR hk24  hF)
def B_Hare_custom_85 (n T : Nat) (k24 : Int32 → Int32 → Int32 → Int32 → Int32 → dk_S → Option (Int32 × dk_S)) (x1 : Int32) (x2 : Int32) (x3 : Int32) (x4 : Int32) (x5 : Int32) (S : dk_S) : Option (Int32 × dk_S) :=
  B_Hare_custom_86 n T k24 x1 x2 x3 x4 x5 (0 : Int32) S
set_option maxRecDepth 20000 in
theorem kb_Hare_custom_85 {p : Program} {l : Launch} {e : Env} {s : State} {m : MethodId} {args : Array Value} {below : List Frame} {meth : Method} {c : Code} {g : dk_G} {A : Nat → Prop} {Q : State → Prop} {ad : Nat → Nat} {T : Nat} {n : Nat} {res : (Int32 × dk_S)} (X : dk_X p s m args meth c b_Hare_custom 7 R_Hare (some .int) g A) (hR : dk_Ri p l e rm_Hare_custom s m args below meth c g A Q 7 b_Hare_custom (some .int) (wC g ad T) res) {k24 : Int32 → Int32 → Int32 → Int32 → Int32 → dk_S → Option (Int32 × dk_S)} (hk24 : ∀ (x1 : Int32) (x2 : Int32) (x3 : Int32) (x4 : Int32) (x5 : Int32)  (S : dk_S), k24 x1 x2 x3 x4 x5 S = some res → dk_J p l e rm_Hare_custom s m args below meth c g A Q 7 0 0 24 [(0, .ref (ad 0)), (1, .int x1), (2, .int x2), (3, .int x3), (4, .int x4), (5, .int x5)] [] (wC g ad T S)) {x1 : Int32} {x2 : Int32} {x3 : Int32} {x4 : Int32} {x5 : Int32} {S : dk_S}  (hF : B_Hare_custom_85 n T k24 x1 x2 x3 x4 x5 S = some res) : dk_J p l e rm_Hare_custom s m args below meth c g A Q 7 0 0 85 [(0, .ref (ad 0)), (1, .int x1), (2, .int x2), (3, .int x3), (4, .int x4), (5, .int x5)] [] (wC g ad T S) := by
  unfold B_Hare_custom_85 at hF
  refine dk_iconst (v := 0) X (by decide) d_Hare_custom_85 ?_
  exact (kb_Hare_custom_86 (n := n) X hR hk24  hF)
def B_Hare_custom_24b (n T : Nat) (k24 : Int32 → Int32 → Int32 → Int32 → Int32 → dk_S → Option (Int32 × dk_S)) (x1 : Int32) (x2 : Int32) (x3 : Int32) (x4 : Int32) (x5 : Int32) (S : dk_S) : Option (Int32 × dk_S) :=
  if (S 100 0) ≤ x5 then (dk_cv (F_Hare_useText n T (S 101 0) S) fun S1 => some (x2, S1)) else (dk_cv (F_Hare_useText n T x5 S) fun S3 => dk_cv (F_Scene_tally n T x1 S3) fun S5 => if (S5 119 0) < x3 then (B_Hare_custom_81 n T k24 x1 x2 x3 x4 x5 S5) else (if ¬ (S5 119 0) = x3 then (B_Hare_custom_85 n T k24 x1 x2 x3 x4 x5 S5) else (if x4 ≤ (S5 120 0) then (B_Hare_custom_85 n T k24 x1 x2 x3 x4 x5 S5) else (B_Hare_custom_81 n T k24 x1 x2 x3 x4 x5 S5))))
set_option maxRecDepth 20000 in
theorem kb_Hare_custom_24b {p : Program} {l : Launch} {e : Env} {s : State} {m : MethodId} {args : Array Value} {below : List Frame} {meth : Method} {c : Code} {g : dk_G} {A : Nat → Prop} {Q : State → Prop} {ad : Nat → Nat} {T : Nat} {n : Nat} {res : (Int32 × dk_S)} (X : dk_X p s m args meth c b_Hare_custom 7 R_Hare (some .int) g A) (hR : dk_Ri p l e rm_Hare_custom s m args below meth c g A Q 7 b_Hare_custom (some .int) (wC g ad T) res) {k24 : Int32 → Int32 → Int32 → Int32 → Int32 → dk_S → Option (Int32 × dk_S)} (hk24 : ∀ (x1 : Int32) (x2 : Int32) (x3 : Int32) (x4 : Int32) (x5 : Int32)  (S : dk_S), k24 x1 x2 x3 x4 x5 S = some res → dk_J p l e rm_Hare_custom s m args below meth c g A Q 7 0 0 24 [(0, .ref (ad 0)), (1, .int x1), (2, .int x2), (3, .int x3), (4, .int x4), (5, .int x5)] [] (wC g ad T S)) {x1 : Int32} {x2 : Int32} {x3 : Int32} {x4 : Int32} {x5 : Int32} {S : dk_S}  (hF : B_Hare_custom_24b n T k24 x1 x2 x3 x4 x5 S = some res) : dk_J p l e rm_Hare_custom s m args below meth c g A Q 7 0 0 24 [(0, .ref (ad 0)), (1, .int x1), (2, .int x2), (3, .int x3), (4, .int x4), (5, .int x5)] [] (wC g ad T S) := by
  unfold B_Hare_custom_24b at hF
  refine dk_iload (i := 5) X 5 rfl d_Hare_custom_24 ?_
  refine dk_aload_n (k := 0) (i := 0) X 0 rfl rfl d_Hare_custom_26 ?_
  refine dk_get X q_Hare 0 8 (by decide) (oC_Hare g ad T S) rfl f_Hare_57 d_Hare_custom_27 ?_
  refine dk_icmp_ge (tgt := 124) X (by decide) d_Hare_custom_30 hF (fun hF => ?_) (fun hF => ?_)
  · refine dk_aload_n (k := 0) (i := 0) X 0 rfl rfl d_Hare_custom_124 ?_
    refine dk_aload_n (k := 0) (i := 0) X 0 rfl rfl d_Hare_custom_125 ?_
    refine dk_get X q_Hare 0 9 (by decide) (oC_Hare g ad T S) rfl f_Hare_61 d_Hare_custom_126 ?_
    refine dk_callVv X v_Hare_useText [.int (S 101 0)] (c_Hare_useText l g ad T n (S 101 0) S) 0 (oC_Hare g ad T S) rfl rfl m_Hare_155 rfl rfl ⟨rfl, rfl, Nat.le_of_ble_eq_true rfl, Nat.le_of_ble_eq_true rfl, Nat.le_refl _, Nat.le_refl _⟩ (Nat.le_of_ble_eq_true rfl) d_Hare_custom_129 hF (fun S1 hF => ?_)
    refine dk_iload_n (k := 2) (i := 2) X 2 rfl rfl d_Hare_custom_132 ?_
    exact dk_reti hR hF d_Hare_custom_133
  · refine dk_aload_n (k := 0) (i := 0) X 0 rfl rfl d_Hare_custom_33 ?_
    refine dk_iload (i := 5) X 5 rfl d_Hare_custom_34 ?_
    refine dk_callVv X v_Hare_useText [.int x5] (c_Hare_useText l g ad T n x5 S) 0 (oC_Hare g ad T S) rfl rfl m_Hare_155 rfl rfl ⟨rfl, rfl, Nat.le_of_ble_eq_true rfl, Nat.le_of_ble_eq_true rfl, Nat.le_refl _, Nat.le_refl _⟩ (Nat.le_of_ble_eq_true rfl) d_Hare_custom_36 hF (fun S3 hF => ?_)
    refine dk_aload_n (k := 0) (i := 0) X 0 rfl rfl d_Hare_custom_39 ?_
    refine dk_get X q_Hare 0 4 (by decide) (oC_Hare g ad T S3) rfl f_Hare_49 d_Hare_custom_40 ?_
    refine dk_iload_n (k := 1) (i := 1) X 1 rfl rfl d_Hare_custom_43 ?_
    refine dk_callVv X v_Scene_tally [.int x1] (c_Scene_tally l g ad T n x1 S3) 18 (oC_Scene g ad T S3) rfl rfl m_Hare_212 rfl rfl ⟨rfl, rfl, Nat.le_of_ble_eq_true rfl, Nat.le_of_ble_eq_true rfl, Nat.le_refl _, Nat.le_refl _⟩ (Nat.le_of_ble_eq_true rfl) d_Hare_custom_44 hF (fun S5 hF => ?_)
    refine dk_aload_n (k := 0) (i := 0) X 0 rfl rfl d_Hare_custom_47 ?_
    refine dk_get X q_Hare 0 4 (by decide) (oC_Hare g ad T S5) rfl f_Hare_49 d_Hare_custom_48 ?_
    refine dk_get X q_Scene 18 18 (by decide) (oC_Scene g ad T S5) rfl f_Hare_249 d_Hare_custom_51 ?_
    refine dk_iload_n (k := 3) (i := 3) X 3 rfl rfl d_Hare_custom_54 ?_
    refine dk_icmp_lt (tgt := 81) X (by decide) d_Hare_custom_55 hF (fun hF => ?_) (fun hF => ?_)
    · exact (kb_Hare_custom_81 (n := n) X hR hk24  hF)
    · refine dk_aload_n (k := 0) (i := 0) X 0 rfl rfl d_Hare_custom_58 ?_
      refine dk_get X q_Hare 0 4 (by decide) (oC_Hare g ad T S5) rfl f_Hare_49 d_Hare_custom_59 ?_
      refine dk_get X q_Scene 18 18 (by decide) (oC_Scene g ad T S5) rfl f_Hare_249 d_Hare_custom_62 ?_
      refine dk_iload_n (k := 3) (i := 3) X 3 rfl rfl d_Hare_custom_65 ?_
      refine dk_icmp_ne (tgt := 85) X (by decide) d_Hare_custom_66 hF (fun hF => ?_) (fun hF => ?_)
      · exact (kb_Hare_custom_85 (n := n) X hR hk24  hF)
      · refine dk_aload_n (k := 0) (i := 0) X 0 rfl rfl d_Hare_custom_69 ?_
        refine dk_get X q_Hare 0 4 (by decide) (oC_Hare g ad T S5) rfl f_Hare_49 d_Hare_custom_70 ?_
        refine dk_get X q_Scene 18 19 (by decide) (oC_Scene g ad T S5) rfl f_Hare_215 d_Hare_custom_73 ?_
        refine dk_iload (i := 4) X 4 rfl d_Hare_custom_76 ?_
        refine dk_icmp_ge (tgt := 85) X (by decide) d_Hare_custom_78 hF (fun hF => ?_) (fun hF => ?_)
        · exact (kb_Hare_custom_85 (n := n) X hR hk24  hF)
        · exact (kb_Hare_custom_81 (n := n) X hR hk24  hF)
def B_Hare_custom_24 (n T : Nat)  : Nat → Int32 → Int32 → Int32 → Int32 → Int32 → dk_S → Option (Int32 × dk_S)
  | 0 => fun _ _ _ _ _ _ => none
  | q + 1 => fun x1 x2 x3 x4 x5 S => B_Hare_custom_24b n T (fun x1 x2 x3 x4 x5 S => B_Hare_custom_24 n T  q x1 x2 x3 x4 x5 S) x1 x2 x3 x4 x5 S
theorem kb_Hare_custom_24 {p : Program} {l : Launch} {e : Env} {s : State} {m : MethodId} {args : Array Value} {below : List Frame} {meth : Method} {c : Code} {g : dk_G} {A : Nat → Prop} {Q : State → Prop} {ad : Nat → Nat} {T : Nat} {n : Nat} {res : (Int32 × dk_S)} (X : dk_X p s m args meth c b_Hare_custom 7 R_Hare (some .int) g A) (hR : dk_Ri p l e rm_Hare_custom s m args below meth c g A Q 7 b_Hare_custom (some .int) (wC g ad T) res)  : ∀ (q : Nat) (x1 : Int32) (x2 : Int32) (x3 : Int32) (x4 : Int32) (x5 : Int32)  (S : dk_S), B_Hare_custom_24 n T  q x1 x2 x3 x4 x5 S = some res → dk_J p l e rm_Hare_custom s m args below meth c g A Q 7 0 0 24 [(0, .ref (ad 0)), (1, .int x1), (2, .int x2), (3, .int x3), (4, .int x4), (5, .int x5)] [] (wC g ad T S) := by
  intro q
  induction q with
  | zero => intro x1 x2 x3 x4 x5  S hF; cases hF
  | succ q ih => intro x1 x2 x3 x4 x5  S hF; exact kb_Hare_custom_24b (n := n) X hR ih  hF
def B_Hare_custom_0 (n T : Nat)  (x1 : Int32) (S : dk_S) : Option (Int32 × dk_S) :=
  dk_c (F_Land_hasBeast n T x1 S) fun r8 S7 => if ¬ r8 = 0 then (B_Hare_custom_24 n T  n x1 (0 : Int32) (0 : Int32) (0 : Int32) (0 : Int32) S7) else (some ((-5 : Int32), S7))
set_option maxRecDepth 20000 in
theorem kb_Hare_custom_0 {p : Program} {l : Launch} {e : Env} {s : State} {m : MethodId} {args : Array Value} {below : List Frame} {meth : Method} {c : Code} {g : dk_G} {A : Nat → Prop} {Q : State → Prop} {ad : Nat → Nat} {T : Nat} {n : Nat} {res : (Int32 × dk_S)} (X : dk_X p s m args meth c b_Hare_custom 7 R_Hare (some .int) g A) (hR : dk_Ri p l e rm_Hare_custom s m args below meth c g A Q 7 b_Hare_custom (some .int) (wC g ad T) res)  {x1 : Int32} {S : dk_S}  (hF : B_Hare_custom_0 n T  x1 S = some res) : dk_J p l e rm_Hare_custom s m args below meth c g A Q 7 0 0 0 [(0, .ref (ad 0)), (1, .int x1)] [] (wC g ad T S) := by
  unfold B_Hare_custom_0 at hF
  refine dk_aload_n (k := 0) (i := 0) X 0 rfl rfl d_Hare_custom_0 ?_
  refine dk_get X q_Hare 0 0 (by decide) (oC_Hare g ad T S) rfl f_Hare_10 d_Hare_custom_1 ?_
  refine dk_iload_n (k := 1) (i := 1) X 1 rfl rfl d_Hare_custom_4 ?_
  refine dk_callVi X v_Land_hasBeast [.int x1] (c_Land_hasBeast l g ad T n x1 S) 1 (oC_Land g ad T S) rfl rfl m_Hare_97 rfl rfl ⟨rfl, rfl, Nat.le_of_ble_eq_true rfl, Nat.le_of_ble_eq_true rfl, Nat.le_refl _, Nat.le_refl _⟩ (Nat.le_of_ble_eq_true rfl) d_Hare_custom_5 hF (fun r8 S7 hF => ?_)
  refine dk_if_ne (tgt := 14) X (by decide) d_Hare_custom_8 hF (fun hF => ?_) (fun hF => ?_)
  · refine dk_iconst (v := 0) X (by decide) d_Hare_custom_14 ?_
    refine dk_istore_n (k := 2) (i := 2) (lv' := [(2, .int (0 : Int32)), (0, .ref (ad 0)), (1, .int x1)]) X rfl (by decide) rfl d_Hare_custom_15 ?_
    refine dk_iconst (v := 0) X (by decide) d_Hare_custom_16 ?_
    refine dk_istore_n (k := 3) (i := 3) (lv' := [(3, .int (0 : Int32)), (2, .int (0 : Int32)), (0, .ref (ad 0)), (1, .int x1)]) X rfl (by decide) rfl d_Hare_custom_17 ?_
    refine dk_iconst (v := 0) X (by decide) d_Hare_custom_18 ?_
    refine dk_istore (i := 4) (lv' := [(4, .int (0 : Int32)), (3, .int (0 : Int32)), (2, .int (0 : Int32)), (0, .ref (ad 0)), (1, .int x1)]) X (by decide) rfl d_Hare_custom_19 ?_
    refine dk_iconst (v := 0) X (by decide) d_Hare_custom_21 ?_
    refine dk_istore (i := 5) (lv' := [(5, .int (0 : Int32)), (4, .int (0 : Int32)), (3, .int (0 : Int32)), (2, .int (0 : Int32)), (0, .ref (ad 0)), (1, .int x1)]) X (by decide) rfl d_Hare_custom_22 ?_
    exact dk_sub [4, 5, 3, 2, 1, 0] rfl (kb_Hare_custom_24 (n := n) X hR  n x1 (0 : Int32) (0 : Int32) (0 : Int32) (0 : Int32) S7 hF)
  · refine dk_bipush (v := -5) X (by decide) d_Hare_custom_11 ?_
    exact dk_reti hR hF d_Hare_custom_13
def F_Hare_custom (n T : Nat) (x1 : Int32) (S : dk_S) : Option (Int32 × dk_S) := B_Hare_custom_0 n T x1 S
theorem c_Hare_custom (l : Launch) (g : dk_G) (ad : Nat → Nat) (T n : Nat) (x1 : Int32)  (S : dk_S) : dk_Mi l g y_Hare_custom b_Hare_custom 7 rm_Hare_custom (some .int) [.ref (ad 0), .int x1] (wC g ad T) S (F_Hare_custom n T x1 S) := dk_enteri (by decide) (Nat.le_of_ble_eq_true rfl) (fun p e s m args below meth c A Q res hF X hR => (kb_Hare_custom_0 (n := n) X hR  hF))
abbrev b_Hare_count : ByteArray := prog_1_method_26_code
def y_Hare_count : MethodName := ⟨R_Hare, "count", "(I)I"⟩
theorem d_Hare_count_0 : decode b_Hare_count 0 = .ok (.iload_n 1, 1) := by decide +kernel
theorem d_Hare_count_1 : decode b_Hare_count 1 = .ok (.tableswitch 93 0 6 #[43, 51, 59, 67, 75, 80, 85], 43) := by decide +kernel
theorem d_Hare_count_44 : decode b_Hare_count 44 = .ok (.aload_n 0, 1) := by decide +kernel
theorem d_Hare_count_45 : decode b_Hare_count 45 = .ok (.getfield 10, 3) := by decide +kernel
theorem d_Hare_count_48 : decode b_Hare_count 48 = .ok (.getfield 252, 3) := by decide +kernel
theorem d_Hare_count_51 : decode b_Hare_count 51 = .ok (.ireturn, 1) := by decide +kernel
theorem d_Hare_count_52 : decode b_Hare_count 52 = .ok (.aload_n 0, 1) := by decide +kernel
theorem d_Hare_count_53 : decode b_Hare_count 53 = .ok (.getfield 10, 3) := by decide +kernel
theorem d_Hare_count_56 : decode b_Hare_count 56 = .ok (.getfield 255, 3) := by decide +kernel
theorem d_Hare_count_59 : decode b_Hare_count 59 = .ok (.ireturn, 1) := by decide +kernel
theorem d_Hare_count_60 : decode b_Hare_count 60 = .ok (.aload_n 0, 1) := by decide +kernel
theorem d_Hare_count_61 : decode b_Hare_count 61 = .ok (.getfield 19, 3) := by decide +kernel
theorem d_Hare_count_64 : decode b_Hare_count 64 = .ok (.getfield 226, 3) := by decide +kernel
theorem d_Hare_count_67 : decode b_Hare_count 67 = .ok (.ireturn, 1) := by decide +kernel
theorem d_Hare_count_68 : decode b_Hare_count 68 = .ok (.aload_n 0, 1) := by decide +kernel
theorem d_Hare_count_69 : decode b_Hare_count 69 = .ok (.getfield 19, 3) := by decide +kernel
theorem d_Hare_count_72 : decode b_Hare_count 72 = .ok (.invokevirtual 120, 3) := by decide +kernel
theorem d_Hare_count_75 : decode b_Hare_count 75 = .ok (.ireturn, 1) := by decide +kernel
theorem d_Hare_count_76 : decode b_Hare_count 76 = .ok (.aload_n 0, 1) := by decide +kernel
theorem d_Hare_count_77 : decode b_Hare_count 77 = .ok (.getfield 57, 3) := by decide +kernel
theorem d_Hare_count_80 : decode b_Hare_count 80 = .ok (.ireturn, 1) := by decide +kernel
theorem d_Hare_count_81 : decode b_Hare_count 81 = .ok (.aload_n 0, 1) := by decide +kernel
theorem d_Hare_count_82 : decode b_Hare_count 82 = .ok (.getfield 61, 3) := by decide +kernel
theorem d_Hare_count_85 : decode b_Hare_count 85 = .ok (.ireturn, 1) := by decide +kernel
theorem d_Hare_count_86 : decode b_Hare_count 86 = .ok (.aload_n 0, 1) := by decide +kernel
theorem d_Hare_count_87 : decode b_Hare_count 87 = .ok (.getfield 26, 3) := by decide +kernel
theorem d_Hare_count_90 : decode b_Hare_count 90 = .ok (.getfield 145, 3) := by decide +kernel
theorem d_Hare_count_93 : decode b_Hare_count 93 = .ok (.ireturn, 1) := by decide +kernel
theorem d_Hare_count_94 : decode b_Hare_count 94 = .ok (.bipush (-2), 2) := by decide +kernel
theorem d_Hare_count_96 : decode b_Hare_count 96 = .ok (.ireturn, 1) := by decide +kernel
theorem v_Hare_count : dk_Yv y_Hare_count b_Hare_count 2 (some .int) 1 := ⟨dk_in (List.mem_of_getElem? (i := 864) (by decide +kernel)) rfl, dk_in (List.mem_of_getElem? (i := 865) (by decide +kernel)) rfl, dk_in (List.mem_of_getElem? (i := 66) (by decide +kernel)) rfl, dk_in (List.mem_of_getElem? (i := 866) (by decide +kernel)) rfl, by decide +kernel, by decide +kernel, by decide +kernel⟩
abbrev rm_Hare_count : Room := { frames := 1, cells := 0, slots := 0, locals := 22 }
theorem f_Hare_145 : Cond.fieldLink R_Hare 145 (T_Reader 1).1 (T_Reader 1).2.1 (T_Reader 1).2.2.1 ∈ dk_tb := dk_in (List.mem_of_getElem? (i := 176) (by decide +kernel)) rfl
theorem f_Hare_252 : Cond.fieldLink R_Hare 252 (T_Land 3).1 (T_Land 3).2.1 (T_Land 3).2.2.1 ∈ dk_tb := dk_in (List.mem_of_getElem? (i := 108) (by decide +kernel)) rfl
theorem f_Hare_255 : Cond.fieldLink R_Hare 255 (T_Land 4).1 (T_Land 4).2.1 (T_Land 4).2.2.1 ∈ dk_tb := dk_in (List.mem_of_getElem? (i := 111) (by decide +kernel)) rfl
theorem f_Hare_26 : Cond.fieldLink R_Hare 26 (T_Hare 2).1 (T_Hare 2).2.1 (T_Hare 2).2.2.1 ∈ dk_tb := dk_in (List.mem_of_getElem? (i := 374) (by decide +kernel)) rfl
def B_Hare_count_0 (n T : Nat)  (x1 : Int32) (S : dk_S) : Option (Int32 × dk_S) :=
  if x1 = (0 : Int32) then (some ((S 102 0), S)) else (if x1 = (1 : Int32) then (some ((S 103 0), S)) else (if x1 = (2 : Int32) then (some ((S 104 0), S)) else (if x1 = (3 : Int32) then (dk_c (F_Diary_countUnsure n T S) fun r2 S1 => some (r2, S1)) else (if x1 = (4 : Int32) then (some ((S 100 0), S)) else (if x1 = (5 : Int32) then (some ((S 101 0), S)) else (if x1 = (6 : Int32) then (some ((S 105 0), S)) else (some ((-2 : Int32), S))))))))
set_option maxRecDepth 20000 in
theorem kb_Hare_count_0 {p : Program} {l : Launch} {e : Env} {s : State} {m : MethodId} {args : Array Value} {below : List Frame} {meth : Method} {c : Code} {g : dk_G} {A : Nat → Prop} {Q : State → Prop} {ad : Nat → Nat} {T : Nat} {n : Nat} {res : (Int32 × dk_S)} (X : dk_X p s m args meth c b_Hare_count 2 R_Hare (some .int) g A) (hR : dk_Ri p l e rm_Hare_count s m args below meth c g A Q 2 b_Hare_count (some .int) (wC g ad T) res)  {x1 : Int32} {S : dk_S}  (hF : B_Hare_count_0 n T  x1 S = some res) : dk_J p l e rm_Hare_count s m args below meth c g A Q 2 0 0 0 [(0, .ref (ad 0)), (1, .int x1)] [] (wC g ad T S) := by
  unfold B_Hare_count_0 at hF
  refine dk_iload_n (k := 1) (i := 1) X 1 rfl rfl d_Hare_count_0 ?_
  refine dk_if hF (fun hc0 hF => ?_) (fun hc0 hF => ?_)
  · refine dk_tsIn (v := 0) (tgt := 44) X d_Hare_count_1 (by rw [hc0]; decide) (by decide) (by decide) rfl (by decide) ?_
    refine dk_aload_n (k := 0) (i := 0) X 0 rfl rfl d_Hare_count_44 ?_
    refine dk_get X q_Hare 0 0 (by decide) (oC_Hare g ad T S) rfl f_Hare_10 d_Hare_count_45 ?_
    refine dk_get X q_Land 1 3 (by decide) (oC_Land g ad T S) rfl f_Hare_252 d_Hare_count_48 ?_
    exact dk_reti hR hF d_Hare_count_51
  · refine dk_if hF (fun hc1 hF => ?_) (fun hc1 hF => ?_)
    · refine dk_tsIn (v := 1) (tgt := 52) X d_Hare_count_1 (by rw [hc1]; decide) (by decide) (by decide) rfl (by decide) ?_
      refine dk_aload_n (k := 0) (i := 0) X 0 rfl rfl d_Hare_count_52 ?_
      refine dk_get X q_Hare 0 0 (by decide) (oC_Hare g ad T S) rfl f_Hare_10 d_Hare_count_53 ?_
      refine dk_get X q_Land 1 4 (by decide) (oC_Land g ad T S) rfl f_Hare_255 d_Hare_count_56 ?_
      exact dk_reti hR hF d_Hare_count_59
    · refine dk_if hF (fun hc2 hF => ?_) (fun hc2 hF => ?_)
      · refine dk_tsIn (v := 2) (tgt := 60) X d_Hare_count_1 (by rw [hc2]; decide) (by decide) (by decide) rfl (by decide) ?_
        refine dk_aload_n (k := 0) (i := 0) X 0 rfl rfl d_Hare_count_60 ?_
        refine dk_get X q_Hare 0 1 (by decide) (oC_Hare g ad T S) rfl f_Hare_19 d_Hare_count_61 ?_
        refine dk_get X q_Diary 5 6 (by decide) (oC_Diary g ad T S) rfl f_Hare_226 d_Hare_count_64 ?_
        exact dk_reti hR hF d_Hare_count_67
      · refine dk_if hF (fun hc3 hF => ?_) (fun hc3 hF => ?_)
        · refine dk_tsIn (v := 3) (tgt := 68) X d_Hare_count_1 (by rw [hc3]; decide) (by decide) (by decide) rfl (by decide) ?_
          refine dk_aload_n (k := 0) (i := 0) X 0 rfl rfl d_Hare_count_68 ?_
          refine dk_get X q_Hare 0 1 (by decide) (oC_Hare g ad T S) rfl f_Hare_19 d_Hare_count_69 ?_
          refine dk_callVi X v_Diary_countUnsure [] (c_Diary_countUnsure l g ad T n S) 5 (oC_Diary g ad T S) rfl rfl m_Hare_120 rfl rfl ⟨rfl, rfl, Nat.le_of_ble_eq_true rfl, Nat.le_of_ble_eq_true rfl, Nat.le_refl _, Nat.le_refl _⟩ (Nat.le_of_ble_eq_true rfl) d_Hare_count_72 hF (fun r2 S1 hF => ?_)
          exact dk_reti hR hF d_Hare_count_75
        · refine dk_if hF (fun hc4 hF => ?_) (fun hc4 hF => ?_)
          · refine dk_tsIn (v := 4) (tgt := 76) X d_Hare_count_1 (by rw [hc4]; decide) (by decide) (by decide) rfl (by decide) ?_
            refine dk_aload_n (k := 0) (i := 0) X 0 rfl rfl d_Hare_count_76 ?_
            refine dk_get X q_Hare 0 8 (by decide) (oC_Hare g ad T S) rfl f_Hare_57 d_Hare_count_77 ?_
            exact dk_reti hR hF d_Hare_count_80
          · refine dk_if hF (fun hc5 hF => ?_) (fun hc5 hF => ?_)
            · refine dk_tsIn (v := 5) (tgt := 81) X d_Hare_count_1 (by rw [hc5]; decide) (by decide) (by decide) rfl (by decide) ?_
              refine dk_aload_n (k := 0) (i := 0) X 0 rfl rfl d_Hare_count_81 ?_
              refine dk_get X q_Hare 0 9 (by decide) (oC_Hare g ad T S) rfl f_Hare_61 d_Hare_count_82 ?_
              exact dk_reti hR hF d_Hare_count_85
            · refine dk_if hF (fun hc6 hF => ?_) (fun hc6 hF => ?_)
              · refine dk_tsIn (v := 6) (tgt := 86) X d_Hare_count_1 (by rw [hc6]; decide) (by decide) (by decide) rfl (by decide) ?_
                refine dk_aload_n (k := 0) (i := 0) X 0 rfl rfl d_Hare_count_86 ?_
                refine dk_get X q_Hare 0 2 (by decide) (oC_Hare g ad T S) rfl f_Hare_26 d_Hare_count_87 ?_
                refine dk_get X q_Reader 12 1 (by decide) (oC_Reader g ad T S) rfl f_Hare_145 d_Hare_count_90 ?_
                exact dk_reti hR hF d_Hare_count_93
              · refine dk_tsOut (tgt := 94) X d_Hare_count_1 (by have e0 := lv_neT hc0 (a := 0) (by decide); have e1 := lv_neT hc1 (a := 1) (by decide); have e2 := lv_neT hc2 (a := 2) (by decide); have e3 := lv_neT hc3 (a := 3) (by decide); have e4 := lv_neT hc4 (a := 4) (by decide); have e5 := lv_neT hc5 (a := 5) (by decide); have e6 := lv_neT hc6 (a := 6) (by decide); omega) (by decide) ?_
                refine dk_bipush (v := -2) X (by decide) d_Hare_count_94 ?_
                exact dk_reti hR hF d_Hare_count_96
def F_Hare_count (n T : Nat) (x1 : Int32) (S : dk_S) : Option (Int32 × dk_S) := B_Hare_count_0 n T x1 S
theorem c_Hare_count (l : Launch) (g : dk_G) (ad : Nat → Nat) (T n : Nat) (x1 : Int32)  (S : dk_S) : dk_Mi l g y_Hare_count b_Hare_count 2 rm_Hare_count (some .int) [.ref (ad 0), .int x1] (wC g ad T) S (F_Hare_count n T x1 S) := dk_enteri (by decide) (Nat.le_of_ble_eq_true rfl) (fun p e s m args below meth c A Q res hF X hR => (kb_Hare_count_0 (n := n) X hR  hF))
abbrev b_Hare_image : ByteArray := prog_1_method_27_code
def y_Hare_image : MethodName := ⟨R_Hare, "image", "()I"⟩
theorem d_Hare_image_0 : decode b_Hare_image 0 = .ok (.aload_n 0, 1) := by decide +kernel
theorem d_Hare_image_1 : decode b_Hare_image 1 = .ok (.getfield 74, 3) := by decide +kernel
theorem d_Hare_image_4 : decode b_Hare_image 4 = .ok (.aload_n 0, 1) := by decide +kernel
theorem d_Hare_image_5 : decode b_Hare_image 5 = .ok (.getfield 10, 3) := by decide +kernel
theorem d_Hare_image_8 : decode b_Hare_image 8 = .ok (.aload_n 0, 1) := by decide +kernel
theorem d_Hare_image_9 : decode b_Hare_image 9 = .ok (.getfield 19, 3) := by decide +kernel
theorem d_Hare_image_12 : decode b_Hare_image 12 = .ok (.aload_n 0, 1) := by decide +kernel
theorem d_Hare_image_13 : decode b_Hare_image 13 = .ok (.getfield 61, 3) := by decide +kernel
theorem d_Hare_image_16 : decode b_Hare_image 16 = .ok (.invokevirtual 258, 3) := by decide +kernel
theorem d_Hare_image_19 : decode b_Hare_image 19 = .ok (.aload_n 0, 1) := by decide +kernel
theorem d_Hare_image_20 : decode b_Hare_image 20 = .ok (.getfield 19, 3) := by decide +kernel
theorem d_Hare_image_23 : decode b_Hare_image 23 = .ok (.getfield 226, 3) := by decide +kernel
theorem d_Hare_image_26 : decode b_Hare_image 26 = .ok (.ireturn, 1) := by decide +kernel
theorem v_Hare_image : dk_Yv y_Hare_image b_Hare_image 1 (some .int) 0 := ⟨dk_in (List.mem_of_getElem? (i := 868) (by decide +kernel)) rfl, dk_in (List.mem_of_getElem? (i := 869) (by decide +kernel)) rfl, dk_in (List.mem_of_getElem? (i := 66) (by decide +kernel)) rfl, dk_in (List.mem_of_getElem? (i := 870) (by decide +kernel)) rfl, by decide +kernel, by decide +kernel, by decide +kernel⟩
abbrev rm_Hare_image : Room := { frames := 2, cells := 0, slots := 0, locals := 53 }
theorem f_Hare_74 : Cond.fieldLink R_Hare 74 (T_Hare 7).1 (T_Hare 7).2.1 (T_Hare 7).2.2.1 ∈ dk_tb := dk_in (List.mem_of_getElem? (i := 379) (by decide +kernel)) rfl
theorem m_Hare_258 : Cond.methodLink R_Hare 258 y_Image_keep ∈ dk_tb := dk_in (List.mem_of_getElem? (i := 871) (by decide +kernel)) rfl
def B_Hare_image_0 (n T : Nat)   (S : dk_S) : Option (Int32 × dk_S) :=
  dk_cv (F_Image_keep n T (S 101 0) S) fun S1 => some ((S1 104 0), S1)
set_option maxRecDepth 20000 in
theorem kb_Hare_image_0 {p : Program} {l : Launch} {e : Env} {s : State} {m : MethodId} {args : Array Value} {below : List Frame} {meth : Method} {c : Code} {g : dk_G} {A : Nat → Prop} {Q : State → Prop} {ad : Nat → Nat} {T : Nat} {n : Nat} {res : (Int32 × dk_S)} (X : dk_X p s m args meth c b_Hare_image 1 R_Hare (some .int) g A) (hR : dk_Ri p l e rm_Hare_image s m args below meth c g A Q 1 b_Hare_image (some .int) (wC g ad T) res)   {S : dk_S}  (hF : B_Hare_image_0 n T   S = some res) : dk_J p l e rm_Hare_image s m args below meth c g A Q 1 0 0 0 [(0, .ref (ad 0))] [] (wC g ad T S) := by
  unfold B_Hare_image_0 at hF
  refine dk_aload_n (k := 0) (i := 0) X 0 rfl rfl d_Hare_image_0 ?_
  refine dk_get X q_Hare 0 7 (by decide) (oC_Hare g ad T S) rfl f_Hare_74 d_Hare_image_1 ?_
  refine dk_aload_n (k := 0) (i := 0) X 0 rfl rfl d_Hare_image_4 ?_
  refine dk_get X q_Hare 0 0 (by decide) (oC_Hare g ad T S) rfl f_Hare_10 d_Hare_image_5 ?_
  refine dk_aload_n (k := 0) (i := 0) X 0 rfl rfl d_Hare_image_8 ?_
  refine dk_get X q_Hare 0 1 (by decide) (oC_Hare g ad T S) rfl f_Hare_19 d_Hare_image_9 ?_
  refine dk_aload_n (k := 0) (i := 0) X 0 rfl rfl d_Hare_image_12 ?_
  refine dk_get X q_Hare 0 9 (by decide) (oC_Hare g ad T S) rfl f_Hare_61 d_Hare_image_13 ?_
  refine dk_callVv X v_Image_keep [.ref (ad 1), .ref (ad 5), .int (S 101 0)] (c_Image_keep l g ad T n (S 101 0) S) 32 (oC_Image g ad T S) rfl rfl m_Hare_258 rfl rfl ⟨rfl, rfl, Nat.le_of_ble_eq_true rfl, Nat.le_of_ble_eq_true rfl, Nat.le_refl _, Nat.le_refl _⟩ (Nat.le_of_ble_eq_true rfl) d_Hare_image_16 hF (fun S1 hF => ?_)
  refine dk_aload_n (k := 0) (i := 0) X 0 rfl rfl d_Hare_image_19 ?_
  refine dk_get X q_Hare 0 1 (by decide) (oC_Hare g ad T S1) rfl f_Hare_19 d_Hare_image_20 ?_
  refine dk_get X q_Diary 5 6 (by decide) (oC_Diary g ad T S1) rfl f_Hare_226 d_Hare_image_23 ?_
  exact dk_reti hR hF d_Hare_image_26
def F_Hare_image (n T : Nat)  (S : dk_S) : Option (Int32 × dk_S) := B_Hare_image_0 n T  S
theorem c_Hare_image (l : Launch) (g : dk_G) (ad : Nat → Nat) (T n : Nat)   (S : dk_S) : dk_Mi l g y_Hare_image b_Hare_image 1 rm_Hare_image (some .int) [.ref (ad 0)] (wC g ad T) S (F_Hare_image n T  S) := dk_enteri (by decide) (Nat.le_of_ble_eq_true rfl) (fun p e s m args below meth c A Q res hF X hR => (kb_Hare_image_0 (n := n) X hR  hF))
abbrev b_Hare_back : ByteArray := prog_1_method_28_code
def y_Hare_back : MethodName := ⟨R_Hare, "back", "()I"⟩
theorem d_Hare_back_0 : decode b_Hare_back 0 = .ok (.aload_n 0, 1) := by decide +kernel
theorem d_Hare_back_1 : decode b_Hare_back 1 = .ok (.getfield 74, 3) := by decide +kernel
theorem d_Hare_back_4 : decode b_Hare_back 4 = .ok (.getfield 262, 3) := by decide +kernel
theorem d_Hare_back_7 : decode b_Hare_back 7 = .ok (.ifCond .ne 6, 3) := by decide +kernel
theorem d_Hare_back_10 : decode b_Hare_back 10 = .ok (.bipush (-3), 2) := by decide +kernel
theorem d_Hare_back_12 : decode b_Hare_back 12 = .ok (.ireturn, 1) := by decide +kernel
theorem d_Hare_back_13 : decode b_Hare_back 13 = .ok (.aload_n 0, 1) := by decide +kernel
theorem d_Hare_back_14 : decode b_Hare_back 14 = .ok (.getfield 74, 3) := by decide +kernel
theorem d_Hare_back_17 : decode b_Hare_back 17 = .ok (.aload_n 0, 1) := by decide +kernel
theorem d_Hare_back_18 : decode b_Hare_back 18 = .ok (.getfield 10, 3) := by decide +kernel
theorem d_Hare_back_21 : decode b_Hare_back 21 = .ok (.aload_n 0, 1) := by decide +kernel
theorem d_Hare_back_22 : decode b_Hare_back 22 = .ok (.getfield 19, 3) := by decide +kernel
theorem d_Hare_back_25 : decode b_Hare_back 25 = .ok (.invokevirtual 266, 3) := by decide +kernel
theorem d_Hare_back_28 : decode b_Hare_back 28 = .ok (.aload_n 0, 1) := by decide +kernel
theorem d_Hare_back_29 : decode b_Hare_back 29 = .ok (.aload_n 0, 1) := by decide +kernel
theorem d_Hare_back_30 : decode b_Hare_back 30 = .ok (.getfield 74, 3) := by decide +kernel
theorem d_Hare_back_33 : decode b_Hare_back 33 = .ok (.getfield 270, 3) := by decide +kernel
theorem d_Hare_back_36 : decode b_Hare_back 36 = .ok (.putfield 61, 3) := by decide +kernel
theorem d_Hare_back_39 : decode b_Hare_back 39 = .ok (.aload_n 0, 1) := by decide +kernel
theorem d_Hare_back_40 : decode b_Hare_back 40 = .ok (.aload_n 0, 1) := by decide +kernel
theorem d_Hare_back_41 : decode b_Hare_back 41 = .ok (.getfield 61, 3) := by decide +kernel
theorem d_Hare_back_44 : decode b_Hare_back 44 = .ok (.invokevirtual 155, 3) := by decide +kernel
theorem d_Hare_back_47 : decode b_Hare_back 47 = .ok (.aload_n 0, 1) := by decide +kernel
theorem d_Hare_back_48 : decode b_Hare_back 48 = .ok (.getfield 19, 3) := by decide +kernel
theorem d_Hare_back_51 : decode b_Hare_back 51 = .ok (.getfield 226, 3) := by decide +kernel
theorem d_Hare_back_54 : decode b_Hare_back 54 = .ok (.ireturn, 1) := by decide +kernel
theorem v_Hare_back : dk_Yv y_Hare_back b_Hare_back 1 (some .int) 0 := ⟨dk_in (List.mem_of_getElem? (i := 877) (by decide +kernel)) rfl, dk_in (List.mem_of_getElem? (i := 878) (by decide +kernel)) rfl, dk_in (List.mem_of_getElem? (i := 66) (by decide +kernel)) rfl, dk_in (List.mem_of_getElem? (i := 879) (by decide +kernel)) rfl, by decide +kernel, by decide +kernel, by decide +kernel⟩
abbrev rm_Hare_back : Room := { frames := 2, cells := 0, slots := 0, locals := 52 }
theorem f_Hare_262 : Cond.fieldLink R_Hare 262 (T_Image 0).1 (T_Image 0).2.1 (T_Image 0).2.2.1 ∈ dk_tb := dk_in (List.mem_of_getElem? (i := 352) (by decide +kernel)) rfl
theorem f_Hare_270 : Cond.fieldLink R_Hare 270 (T_Image 1).1 (T_Image 1).2.1 (T_Image 1).2.2.1 ∈ dk_tb := dk_in (List.mem_of_getElem? (i := 354) (by decide +kernel)) rfl
theorem m_Hare_266 : Cond.methodLink R_Hare 266 y_Image_restore ∈ dk_tb := dk_in (List.mem_of_getElem? (i := 880) (by decide +kernel)) rfl
def B_Hare_back_0 (n T : Nat)   (S : dk_S) : Option (Int32 × dk_S) :=
  if ¬ (S 121 0) = 0 then (dk_cv (F_Image_restore n T S) fun S1 => dk_p S1 101 (S1 122 0) fun S3 => dk_cv (F_Hare_useText n T (S3 101 0) S3) fun S4 => some ((S4 104 0), S4)) else (some ((-3 : Int32), S))
set_option maxRecDepth 20000 in
theorem kb_Hare_back_0 {p : Program} {l : Launch} {e : Env} {s : State} {m : MethodId} {args : Array Value} {below : List Frame} {meth : Method} {c : Code} {g : dk_G} {A : Nat → Prop} {Q : State → Prop} {ad : Nat → Nat} {T : Nat} {n : Nat} {res : (Int32 × dk_S)} (X : dk_X p s m args meth c b_Hare_back 1 R_Hare (some .int) g A) (hR : dk_Ri p l e rm_Hare_back s m args below meth c g A Q 1 b_Hare_back (some .int) (wC g ad T) res)   {S : dk_S}  (hF : B_Hare_back_0 n T   S = some res) : dk_J p l e rm_Hare_back s m args below meth c g A Q 1 0 0 0 [(0, .ref (ad 0))] [] (wC g ad T S) := by
  unfold B_Hare_back_0 at hF
  refine dk_aload_n (k := 0) (i := 0) X 0 rfl rfl d_Hare_back_0 ?_
  refine dk_get X q_Hare 0 7 (by decide) (oC_Hare g ad T S) rfl f_Hare_74 d_Hare_back_1 ?_
  refine dk_get X q_Image 32 0 (by decide) (oC_Image g ad T S) rfl f_Hare_262 d_Hare_back_4 ?_
  refine dk_if_ne (tgt := 13) X (by decide) d_Hare_back_7 hF (fun hF => ?_) (fun hF => ?_)
  · refine dk_aload_n (k := 0) (i := 0) X 0 rfl rfl d_Hare_back_13 ?_
    refine dk_get X q_Hare 0 7 (by decide) (oC_Hare g ad T S) rfl f_Hare_74 d_Hare_back_14 ?_
    refine dk_aload_n (k := 0) (i := 0) X 0 rfl rfl d_Hare_back_17 ?_
    refine dk_get X q_Hare 0 0 (by decide) (oC_Hare g ad T S) rfl f_Hare_10 d_Hare_back_18 ?_
    refine dk_aload_n (k := 0) (i := 0) X 0 rfl rfl d_Hare_back_21 ?_
    refine dk_get X q_Hare 0 1 (by decide) (oC_Hare g ad T S) rfl f_Hare_19 d_Hare_back_22 ?_
    refine dk_callVv X v_Image_restore [.ref (ad 1), .ref (ad 5)] (c_Image_restore l g ad T n S) 32 (oC_Image g ad T S) rfl rfl m_Hare_266 rfl rfl ⟨rfl, rfl, Nat.le_of_ble_eq_true rfl, Nat.le_of_ble_eq_true rfl, Nat.le_refl _, Nat.le_refl _⟩ (Nat.le_of_ble_eq_true rfl) d_Hare_back_25 hF (fun S1 hF => ?_)
    refine dk_aload_n (k := 0) (i := 0) X 0 rfl rfl d_Hare_back_28 ?_
    refine dk_aload_n (k := 0) (i := 0) X 0 rfl rfl d_Hare_back_29 ?_
    refine dk_get X q_Hare 0 7 (by decide) (oC_Hare g ad T S1) rfl f_Hare_74 d_Hare_back_30 ?_
    refine dk_get X q_Image 32 1 (by decide) (oC_Image g ad T S1) rfl f_Hare_270 d_Hare_back_33 ?_
    refine dk_puti X q_Hare 0 9 (by decide) (oC_Hare g ad T S1) f_Hare_61 rfl rfl (Nat.le_of_ble_eq_true rfl) (sC_Hare_law g ad T S1 _) d_Hare_back_36 hF (fun S3 hF => ?_)
    refine dk_aload_n (k := 0) (i := 0) X 0 rfl rfl d_Hare_back_39 ?_
    refine dk_aload_n (k := 0) (i := 0) X 0 rfl rfl d_Hare_back_40 ?_
    refine dk_get X q_Hare 0 9 (by decide) (oC_Hare g ad T S3) rfl f_Hare_61 d_Hare_back_41 ?_
    refine dk_callVv X v_Hare_useText [.int (S3 101 0)] (c_Hare_useText l g ad T n (S3 101 0) S3) 0 (oC_Hare g ad T S3) rfl rfl m_Hare_155 rfl rfl ⟨rfl, rfl, Nat.le_of_ble_eq_true rfl, Nat.le_of_ble_eq_true rfl, Nat.le_refl _, Nat.le_refl _⟩ (Nat.le_of_ble_eq_true rfl) d_Hare_back_44 hF (fun S4 hF => ?_)
    refine dk_aload_n (k := 0) (i := 0) X 0 rfl rfl d_Hare_back_47 ?_
    refine dk_get X q_Hare 0 1 (by decide) (oC_Hare g ad T S4) rfl f_Hare_19 d_Hare_back_48 ?_
    refine dk_get X q_Diary 5 6 (by decide) (oC_Diary g ad T S4) rfl f_Hare_226 d_Hare_back_51 ?_
    exact dk_reti hR hF d_Hare_back_54
  · refine dk_bipush (v := -3) X (by decide) d_Hare_back_10 ?_
    exact dk_reti hR hF d_Hare_back_12
def F_Hare_back (n T : Nat)  (S : dk_S) : Option (Int32 × dk_S) := B_Hare_back_0 n T  S
theorem c_Hare_back (l : Launch) (g : dk_G) (ad : Nat → Nat) (T n : Nat)   (S : dk_S) : dk_Mi l g y_Hare_back b_Hare_back 1 rm_Hare_back (some .int) [.ref (ad 0)] (wC g ad T) S (F_Hare_back n T  S) := dk_enteri (by decide) (Nat.le_of_ble_eq_true rfl) (fun p e s m args below meth c A Q res hF X hR => (kb_Hare_back_0 (n := n) X hR  hF))
abbrev b_Hare_sheet : ByteArray := prog_1_method_29_code
def y_Hare_sheet : MethodName := ⟨R_Hare, "sheet", "(III)I"⟩
theorem d_Hare_sheet_0 : decode b_Hare_sheet 0 = .ok (.iload_n 1, 1) := by decide +kernel
theorem d_Hare_sheet_1 : decode b_Hare_sheet 1 = .ok (.invokestatic 218, 3) := by decide +kernel
theorem d_Hare_sheet_4 : decode b_Hare_sheet 4 = .ok (.ifCond .eq 13, 3) := by decide +kernel
theorem d_Hare_sheet_7 : decode b_Hare_sheet 7 = .ok (.iload_n 2, 1) := by decide +kernel
theorem d_Hare_sheet_8 : decode b_Hare_sheet 8 = .ok (.iconst (-1), 1) := by decide +kernel
theorem d_Hare_sheet_9 : decode b_Hare_sheet 9 = .ok (.if_icmp .lt 8, 3) := by decide +kernel
theorem d_Hare_sheet_12 : decode b_Hare_sheet 12 = .ok (.iload_n 2, 1) := by decide +kernel
theorem d_Hare_sheet_13 : decode b_Hare_sheet 13 = .ok (.iconst 3, 1) := by decide +kernel
theorem d_Hare_sheet_14 : decode b_Hare_sheet 14 = .ok (.if_icmp .lt 6, 3) := by decide +kernel
theorem d_Hare_sheet_17 : decode b_Hare_sheet 17 = .ok (.bipush (-2), 2) := by decide +kernel
theorem d_Hare_sheet_19 : decode b_Hare_sheet 19 = .ok (.ireturn, 1) := by decide +kernel
theorem d_Hare_sheet_20 : decode b_Hare_sheet 20 = .ok (.iload_n 2, 1) := by decide +kernel
theorem d_Hare_sheet_21 : decode b_Hare_sheet 21 = .ok (.iconst (-1), 1) := by decide +kernel
theorem d_Hare_sheet_22 : decode b_Hare_sheet 22 = .ok (.if_icmp .ne 16, 3) := by decide +kernel
theorem d_Hare_sheet_25 : decode b_Hare_sheet 25 = .ok (.aload_n 0, 1) := by decide +kernel
theorem d_Hare_sheet_26 : decode b_Hare_sheet 26 = .ok (.getfield 66, 3) := by decide +kernel
theorem d_Hare_sheet_29 : decode b_Hare_sheet 29 = .ok (.iload_n 1, 1) := by decide +kernel
theorem d_Hare_sheet_30 : decode b_Hare_sheet 30 = .ok (.aaload, 1) := by decide +kernel
theorem d_Hare_sheet_31 : decode b_Hare_sheet 31 = .ok (.iload_n 2, 1) := by decide +kernel
theorem d_Hare_sheet_32 : decode b_Hare_sheet 32 = .ok (.iconst 0, 1) := by decide +kernel
theorem d_Hare_sheet_33 : decode b_Hare_sheet 33 = .ok (.invokevirtual 271, 3) := by decide +kernel
theorem d_Hare_sheet_36 : decode b_Hare_sheet 36 = .ok (.iconst 1, 1) := by decide +kernel
theorem d_Hare_sheet_37 : decode b_Hare_sheet 37 = .ok (.ireturn, 1) := by decide +kernel
theorem d_Hare_sheet_38 : decode b_Hare_sheet 38 = .ok (.iload_n 3, 1) := by decide +kernel
theorem d_Hare_sheet_39 : decode b_Hare_sheet 39 = .ok (.bipush 40, 2) := by decide +kernel
theorem d_Hare_sheet_41 : decode b_Hare_sheet 41 = .ok (.if_icmp .le 6, 3) := by decide +kernel
theorem d_Hare_sheet_44 : decode b_Hare_sheet 44 = .ok (.bipush (-2), 2) := by decide +kernel
theorem d_Hare_sheet_46 : decode b_Hare_sheet 46 = .ok (.ireturn, 1) := by decide +kernel
theorem d_Hare_sheet_47 : decode b_Hare_sheet 47 = .ok (.iload_n 3, 1) := by decide +kernel
theorem d_Hare_sheet_48 : decode b_Hare_sheet 48 = .ok (.ifCond .ge 6, 3) := by decide +kernel
theorem d_Hare_sheet_51 : decode b_Hare_sheet 51 = .ok (.bipush (-14), 2) := by decide +kernel
theorem d_Hare_sheet_53 : decode b_Hare_sheet 53 = .ok (.ireturn, 1) := by decide +kernel
theorem d_Hare_sheet_54 : decode b_Hare_sheet 54 = .ok (.aload_n 0, 1) := by decide +kernel
theorem d_Hare_sheet_55 : decode b_Hare_sheet 55 = .ok (.getfield 66, 3) := by decide +kernel
theorem d_Hare_sheet_58 : decode b_Hare_sheet 58 = .ok (.iload_n 1, 1) := by decide +kernel
theorem d_Hare_sheet_59 : decode b_Hare_sheet 59 = .ok (.aaload, 1) := by decide +kernel
theorem d_Hare_sheet_60 : decode b_Hare_sheet 60 = .ok (.iload_n 2, 1) := by decide +kernel
theorem d_Hare_sheet_61 : decode b_Hare_sheet 61 = .ok (.iload_n 3, 1) := by decide +kernel
theorem d_Hare_sheet_62 : decode b_Hare_sheet 62 = .ok (.invokevirtual 271, 3) := by decide +kernel
theorem d_Hare_sheet_65 : decode b_Hare_sheet 65 = .ok (.iconst 1, 1) := by decide +kernel
theorem d_Hare_sheet_66 : decode b_Hare_sheet 66 = .ok (.ireturn, 1) := by decide +kernel
theorem v_Hare_sheet : dk_Yv y_Hare_sheet b_Hare_sheet 4 (some .int) 3 := ⟨dk_in (List.mem_of_getElem? (i := 886) (by decide +kernel)) rfl, dk_in (List.mem_of_getElem? (i := 887) (by decide +kernel)) rfl, dk_in (List.mem_of_getElem? (i := 66) (by decide +kernel)) rfl, dk_in (List.mem_of_getElem? (i := 888) (by decide +kernel)) rfl, by decide +kernel, by decide +kernel, by decide +kernel⟩
abbrev rm_Hare_sheet : Room := { frames := 2, cells := 0, slots := 0, locals := 45 }
theorem m_Hare_271 : Cond.methodLink R_Hare 271 y_Sheet_become ∈ dk_tb := dk_in (List.mem_of_getElem? (i := 889) (by decide +kernel)) rfl
def B_Hare_sheet_0 (n T : Nat)  (x1 : Int32) (x2 : Int32) (x3 : Int32) (S : dk_S) : Option (Int32 × dk_S) :=
  dk_c (F_Hare_isSheet n T x1 S) fun r2 S1 => if r2 = 0 then (some ((-2 : Int32), S1)) else (if x2 < (-1 : Int32) then (some ((-2 : Int32), S1)) else (if x2 < (3 : Int32) then (if ¬ x2 = (-1 : Int32) then (if x3 ≤ (40 : Int32) then (if 0 ≤ x3 then (dk_sh x1 fun j3 => dk_cv (F_Sheet_become n T j3 x2 x3 S1) fun S4 => some ((1 : Int32), S4)) else (some ((-14 : Int32), S1))) else (some ((-2 : Int32), S1))) else (dk_sh x1 fun j6 => dk_cv (F_Sheet_become n T j6 x2 (0 : Int32) S1) fun S7 => some ((1 : Int32), S7))) else (some ((-2 : Int32), S1))))
set_option maxRecDepth 20000 in
theorem kb_Hare_sheet_0 {p : Program} {l : Launch} {e : Env} {s : State} {m : MethodId} {args : Array Value} {below : List Frame} {meth : Method} {c : Code} {g : dk_G} {A : Nat → Prop} {Q : State → Prop} {ad : Nat → Nat} {T : Nat} {n : Nat} {res : (Int32 × dk_S)} (X : dk_X p s m args meth c b_Hare_sheet 4 R_Hare (some .int) g A) (hR : dk_Ri p l e rm_Hare_sheet s m args below meth c g A Q 4 b_Hare_sheet (some .int) (wC g ad T) res)  {x1 : Int32} {x2 : Int32} {x3 : Int32} {S : dk_S}  (hF : B_Hare_sheet_0 n T  x1 x2 x3 S = some res) : dk_J p l e rm_Hare_sheet s m args below meth c g A Q 4 0 0 0 [(0, .ref (ad 0)), (1, .int x1), (2, .int x2), (3, .int x3)] [] (wC g ad T S) := by
  unfold B_Hare_sheet_0 at hF
  refine dk_iload_n (k := 1) (i := 1) X 1 rfl rfl d_Hare_sheet_0 ?_
  refine dk_callSi X v_Hare_isSheet [.int x1] (c_Hare_isSheet l g ad T n x1 S) m_Hare_218 rfl rfl ⟨rfl, rfl, Nat.le_of_ble_eq_true rfl, Nat.le_of_ble_eq_true rfl, Nat.le_refl _, Nat.le_refl _⟩ (Nat.le_of_ble_eq_true rfl) d_Hare_sheet_1 hF (fun r2 S1 hF => ?_)
  refine dk_if_eq (tgt := 17) X (by decide) d_Hare_sheet_4 hF (fun hF => ?_) (fun hF => ?_)
  · refine dk_bipush (v := -2) X (by decide) d_Hare_sheet_17 ?_
    exact dk_reti hR hF d_Hare_sheet_19
  · refine dk_iload_n (k := 2) (i := 2) X 2 rfl rfl d_Hare_sheet_7 ?_
    refine dk_iconst (v := -1) X (by decide) d_Hare_sheet_8 ?_
    refine dk_icmp_lt (tgt := 17) X (by decide) d_Hare_sheet_9 hF (fun hF => ?_) (fun hF => ?_)
    · refine dk_bipush (v := -2) X (by decide) d_Hare_sheet_17 ?_
      exact dk_reti hR hF d_Hare_sheet_19
    · refine dk_iload_n (k := 2) (i := 2) X 2 rfl rfl d_Hare_sheet_12 ?_
      refine dk_iconst (v := 3) X (by decide) d_Hare_sheet_13 ?_
      refine dk_icmp_lt (tgt := 20) X (by decide) d_Hare_sheet_14 hF (fun hF => ?_) (fun hF => ?_)
      · refine dk_iload_n (k := 2) (i := 2) X 2 rfl rfl d_Hare_sheet_20 ?_
        refine dk_iconst (v := -1) X (by decide) d_Hare_sheet_21 ?_
        refine dk_icmp_ne (tgt := 38) X (by decide) d_Hare_sheet_22 hF (fun hF => ?_) (fun hF => ?_)
        · refine dk_iload_n (k := 3) (i := 3) X 3 rfl rfl d_Hare_sheet_38 ?_
          refine dk_bipush (v := 40) X (by decide) d_Hare_sheet_39 ?_
          refine dk_icmp_le (tgt := 47) X (by decide) d_Hare_sheet_41 hF (fun hF => ?_) (fun hF => ?_)
          · refine dk_iload_n (k := 3) (i := 3) X 3 rfl rfl d_Hare_sheet_47 ?_
            refine dk_if_ge (tgt := 54) X (by decide) d_Hare_sheet_48 hF (fun hF => ?_) (fun hF => ?_)
            · refine dk_aload_n (k := 0) (i := 0) X 0 rfl rfl d_Hare_sheet_54 ?_
              refine dk_get X q_Hare 0 6 (by decide) (oC_Hare g ad T S1) rfl f_Hare_66 d_Hare_sheet_55 ?_
              refine dk_iload_n (k := 1) (i := 1) X 1 rfl rfl d_Hare_sheet_58 ?_
              refine dk_shld X d_Hare_sheet_59 hF (fun j3 hj3 hF => ?_)
              refine dk_iload_n (k := 2) (i := 2) X 2 rfl rfl d_Hare_sheet_60 ?_
              refine dk_iload_n (k := 3) (i := 3) X 3 rfl rfl d_Hare_sheet_61 ?_
              refine dk_callVv X v_Sheet_become [.int x2, .int x3] (c_Sheet_become l g ad T n j3 x2 x3 hj3 S1) (35 + 2 * j3) (oC_Sheet g ad T S1 j3 hj3) rfl rfl m_Hare_271 rfl rfl ⟨rfl, rfl, Nat.le_of_ble_eq_true rfl, Nat.le_of_ble_eq_true rfl, Nat.le_refl _, Nat.le_refl _⟩ (Nat.le_of_ble_eq_true rfl) d_Hare_sheet_62 hF (fun S4 hF => ?_)
              refine dk_iconst (v := 1) X (by decide) d_Hare_sheet_65 ?_
              exact dk_reti hR hF d_Hare_sheet_66
            · refine dk_bipush (v := -14) X (by decide) d_Hare_sheet_51 ?_
              exact dk_reti hR hF d_Hare_sheet_53
          · refine dk_bipush (v := -2) X (by decide) d_Hare_sheet_44 ?_
            exact dk_reti hR hF d_Hare_sheet_46
        · refine dk_aload_n (k := 0) (i := 0) X 0 rfl rfl d_Hare_sheet_25 ?_
          refine dk_get X q_Hare 0 6 (by decide) (oC_Hare g ad T S1) rfl f_Hare_66 d_Hare_sheet_26 ?_
          refine dk_iload_n (k := 1) (i := 1) X 1 rfl rfl d_Hare_sheet_29 ?_
          refine dk_shld X d_Hare_sheet_30 hF (fun j6 hj6 hF => ?_)
          refine dk_iload_n (k := 2) (i := 2) X 2 rfl rfl d_Hare_sheet_31 ?_
          refine dk_iconst (v := 0) X (by decide) d_Hare_sheet_32 ?_
          refine dk_callVv X v_Sheet_become [.int x2, .int (0 : Int32)] (c_Sheet_become l g ad T n j6 x2 (0 : Int32) hj6 S1) (35 + 2 * j6) (oC_Sheet g ad T S1 j6 hj6) rfl rfl m_Hare_271 rfl rfl ⟨rfl, rfl, Nat.le_of_ble_eq_true rfl, Nat.le_of_ble_eq_true rfl, Nat.le_refl _, Nat.le_refl _⟩ (Nat.le_of_ble_eq_true rfl) d_Hare_sheet_33 hF (fun S7 hF => ?_)
          refine dk_iconst (v := 1) X (by decide) d_Hare_sheet_36 ?_
          exact dk_reti hR hF d_Hare_sheet_37
      · refine dk_bipush (v := -2) X (by decide) d_Hare_sheet_17 ?_
        exact dk_reti hR hF d_Hare_sheet_19
def F_Hare_sheet (n T : Nat) (x1 : Int32) (x2 : Int32) (x3 : Int32) (S : dk_S) : Option (Int32 × dk_S) := B_Hare_sheet_0 n T x1 x2 x3 S
theorem c_Hare_sheet (l : Launch) (g : dk_G) (ad : Nat → Nat) (T n : Nat) (x1 : Int32) (x2 : Int32) (x3 : Int32)  (S : dk_S) : dk_Mi l g y_Hare_sheet b_Hare_sheet 4 rm_Hare_sheet (some .int) [.ref (ad 0), .int x1, .int x2, .int x3] (wC g ad T) S (F_Hare_sheet n T x1 x2 x3 S) := dk_enteri (by decide) (Nat.le_of_ble_eq_true rfl) (fun p e s m args below meth c A Q res hF X hR => (kb_Hare_sheet_0 (n := n) X hR  hF))
abbrev b_Hare_cell : ByteArray := prog_1_method_30_code
def y_Hare_cell : MethodName := ⟨R_Hare, "cell", "(III)I"⟩
theorem d_Hare_cell_0 : decode b_Hare_cell 0 = .ok (.iload_n 1, 1) := by decide +kernel
theorem d_Hare_cell_1 : decode b_Hare_cell 1 = .ok (.invokestatic 218, 3) := by decide +kernel
theorem d_Hare_cell_4 : decode b_Hare_cell 4 = .ok (.ifCond .ne 6, 3) := by decide +kernel
theorem d_Hare_cell_7 : decode b_Hare_cell 7 = .ok (.bipush (-2), 2) := by decide +kernel
theorem d_Hare_cell_9 : decode b_Hare_cell 9 = .ok (.ireturn, 1) := by decide +kernel
theorem d_Hare_cell_10 : decode b_Hare_cell 10 = .ok (.aload_n 0, 1) := by decide +kernel
theorem d_Hare_cell_11 : decode b_Hare_cell 11 = .ok (.getfield 66, 3) := by decide +kernel
theorem d_Hare_cell_14 : decode b_Hare_cell 14 = .ok (.iload_n 1, 1) := by decide +kernel
theorem d_Hare_cell_15 : decode b_Hare_cell 15 = .ok (.aaload, 1) := by decide +kernel
theorem d_Hare_cell_16 : decode b_Hare_cell 16 = .ok (.astore 4, 2) := by decide +kernel
theorem d_Hare_cell_18 : decode b_Hare_cell 18 = .ok (.aload 4, 2) := by decide +kernel
theorem d_Hare_cell_20 : decode b_Hare_cell 20 = .ok (.invokevirtual 221, 3) := by decide +kernel
theorem d_Hare_cell_23 : decode b_Hare_cell 23 = .ok (.ifCond .eq 6, 3) := by decide +kernel
theorem d_Hare_cell_26 : decode b_Hare_cell 26 = .ok (.bipush (-11), 2) := by decide +kernel
theorem d_Hare_cell_28 : decode b_Hare_cell 28 = .ok (.ireturn, 1) := by decide +kernel
theorem d_Hare_cell_29 : decode b_Hare_cell 29 = .ok (.aload 4, 2) := by decide +kernel
theorem d_Hare_cell_31 : decode b_Hare_cell 31 = .ok (.iload_n 2, 1) := by decide +kernel
theorem d_Hare_cell_32 : decode b_Hare_cell 32 = .ok (.invokevirtual 275, 3) := by decide +kernel
theorem d_Hare_cell_35 : decode b_Hare_cell 35 = .ok (.ifCond .ne 6, 3) := by decide +kernel
theorem d_Hare_cell_38 : decode b_Hare_cell 38 = .ok (.bipush (-12), 2) := by decide +kernel
theorem d_Hare_cell_40 : decode b_Hare_cell 40 = .ok (.ireturn, 1) := by decide +kernel
theorem d_Hare_cell_41 : decode b_Hare_cell 41 = .ok (.aload 4, 2) := by decide +kernel
theorem d_Hare_cell_43 : decode b_Hare_cell 43 = .ok (.iload_n 2, 1) := by decide +kernel
theorem d_Hare_cell_44 : decode b_Hare_cell 44 = .ok (.iload_n 3, 1) := by decide +kernel
theorem d_Hare_cell_45 : decode b_Hare_cell 45 = .ok (.invokevirtual 276, 3) := by decide +kernel
theorem d_Hare_cell_48 : decode b_Hare_cell 48 = .ok (.iconst 1, 1) := by decide +kernel
theorem d_Hare_cell_49 : decode b_Hare_cell 49 = .ok (.ireturn, 1) := by decide +kernel
theorem v_Hare_cell : dk_Yv y_Hare_cell b_Hare_cell 5 (some .int) 3 := ⟨dk_in (List.mem_of_getElem? (i := 897) (by decide +kernel)) rfl, dk_in (List.mem_of_getElem? (i := 898) (by decide +kernel)) rfl, dk_in (List.mem_of_getElem? (i := 66) (by decide +kernel)) rfl, dk_in (List.mem_of_getElem? (i := 899) (by decide +kernel)) rfl, by decide +kernel, by decide +kernel, by decide +kernel⟩
abbrev rm_Hare_cell : Room := { frames := 1, cells := 0, slots := 0, locals := 22 }
theorem m_Hare_275 : Cond.methodLink R_Hare 275 y_Sheet_has ∈ dk_tb := dk_in (List.mem_of_getElem? (i := 900) (by decide +kernel)) rfl
theorem m_Hare_276 : Cond.methodLink R_Hare 276 y_Sheet_put ∈ dk_tb := dk_in (List.mem_of_getElem? (i := 904) (by decide +kernel)) rfl
def B_Hare_cell_0 (n T : Nat)  (x1 : Int32) (x2 : Int32) (x3 : Int32) (S : dk_S) : Option (Int32 × dk_S) :=
  dk_c (F_Hare_isSheet n T x1 S) fun r2 S1 => if ¬ r2 = 0 then (dk_sh x1 fun j3 => dk_c (F_Sheet_isMissing n T j3 S1) fun r5 S4 => if r5 = 0 then (dk_c (F_Sheet_has n T j3 x2 S4) fun r7 S6 => if ¬ r7 = 0 then (dk_cv (F_Sheet_put n T j3 x2 x3 S6) fun S8 => some ((1 : Int32), S8)) else (some ((-12 : Int32), S6))) else (some ((-11 : Int32), S4))) else (some ((-2 : Int32), S1))
set_option maxRecDepth 20000 in
theorem kb_Hare_cell_0 {p : Program} {l : Launch} {e : Env} {s : State} {m : MethodId} {args : Array Value} {below : List Frame} {meth : Method} {c : Code} {g : dk_G} {A : Nat → Prop} {Q : State → Prop} {ad : Nat → Nat} {T : Nat} {n : Nat} {res : (Int32 × dk_S)} (X : dk_X p s m args meth c b_Hare_cell 5 R_Hare (some .int) g A) (hR : dk_Ri p l e rm_Hare_cell s m args below meth c g A Q 5 b_Hare_cell (some .int) (wC g ad T) res)  {x1 : Int32} {x2 : Int32} {x3 : Int32} {S : dk_S}  (hF : B_Hare_cell_0 n T  x1 x2 x3 S = some res) : dk_J p l e rm_Hare_cell s m args below meth c g A Q 5 0 0 0 [(0, .ref (ad 0)), (1, .int x1), (2, .int x2), (3, .int x3)] [] (wC g ad T S) := by
  unfold B_Hare_cell_0 at hF
  refine dk_iload_n (k := 1) (i := 1) X 1 rfl rfl d_Hare_cell_0 ?_
  refine dk_callSi X v_Hare_isSheet [.int x1] (c_Hare_isSheet l g ad T n x1 S) m_Hare_218 rfl rfl ⟨rfl, rfl, Nat.le_of_ble_eq_true rfl, Nat.le_of_ble_eq_true rfl, Nat.le_refl _, Nat.le_refl _⟩ (Nat.le_of_ble_eq_true rfl) d_Hare_cell_1 hF (fun r2 S1 hF => ?_)
  refine dk_if_ne (tgt := 10) X (by decide) d_Hare_cell_4 hF (fun hF => ?_) (fun hF => ?_)
  · refine dk_aload_n (k := 0) (i := 0) X 0 rfl rfl d_Hare_cell_10 ?_
    refine dk_get X q_Hare 0 6 (by decide) (oC_Hare g ad T S1) rfl f_Hare_66 d_Hare_cell_11 ?_
    refine dk_iload_n (k := 1) (i := 1) X 1 rfl rfl d_Hare_cell_14 ?_
    refine dk_shld X d_Hare_cell_15 hF (fun j3 hj3 hF => ?_)
    refine dk_astore (i := 4) (lv' := [(4, .ref (ad (35 + 2 * j3))), (0, .ref (ad 0)), (1, .int x1), (2, .int x2), (3, .int x3)]) X (by decide) rfl d_Hare_cell_16 ?_
    refine dk_aload (i := 4) X 0 rfl d_Hare_cell_18 ?_
    refine dk_callVi X v_Sheet_isMissing [] (c_Sheet_isMissing l g ad T n j3 hj3 S1) (35 + 2 * j3) (oC_Sheet g ad T S1 j3 hj3) rfl rfl m_Hare_221 rfl rfl ⟨rfl, rfl, Nat.le_of_ble_eq_true rfl, Nat.le_of_ble_eq_true rfl, Nat.le_refl _, Nat.le_refl _⟩ (Nat.le_of_ble_eq_true rfl) d_Hare_cell_20 hF (fun r5 S4 hF => ?_)
    refine dk_if_eq (tgt := 29) X (by decide) d_Hare_cell_23 hF (fun hF => ?_) (fun hF => ?_)
    · refine dk_aload (i := 4) X 0 rfl d_Hare_cell_29 ?_
      refine dk_iload_n (k := 2) (i := 2) X 3 rfl rfl d_Hare_cell_31 ?_
      refine dk_callVi X v_Sheet_has [.int x2] (c_Sheet_has l g ad T n j3 x2 hj3 S4) (35 + 2 * j3) (oC_Sheet g ad T S4 j3 hj3) rfl rfl m_Hare_275 rfl rfl ⟨rfl, rfl, Nat.le_of_ble_eq_true rfl, Nat.le_of_ble_eq_true rfl, Nat.le_refl _, Nat.le_refl _⟩ (Nat.le_of_ble_eq_true rfl) d_Hare_cell_32 hF (fun r7 S6 hF => ?_)
      refine dk_if_ne (tgt := 41) X (by decide) d_Hare_cell_35 hF (fun hF => ?_) (fun hF => ?_)
      · refine dk_aload (i := 4) X 0 rfl d_Hare_cell_41 ?_
        refine dk_iload_n (k := 2) (i := 2) X 3 rfl rfl d_Hare_cell_43 ?_
        refine dk_iload_n (k := 3) (i := 3) X 4 rfl rfl d_Hare_cell_44 ?_
        refine dk_callVv X v_Sheet_put [.int x2, .int x3] (c_Sheet_put l g ad T n j3 x2 x3 hj3 S6) (35 + 2 * j3) (oC_Sheet g ad T S6 j3 hj3) rfl rfl m_Hare_276 rfl rfl ⟨rfl, rfl, Nat.le_of_ble_eq_true rfl, Nat.le_of_ble_eq_true rfl, Nat.le_refl _, Nat.le_refl _⟩ (Nat.le_of_ble_eq_true rfl) d_Hare_cell_45 hF (fun S8 hF => ?_)
        refine dk_iconst (v := 1) X (by decide) d_Hare_cell_48 ?_
        exact dk_reti hR hF d_Hare_cell_49
      · refine dk_bipush (v := -12) X (by decide) d_Hare_cell_38 ?_
        exact dk_reti hR hF d_Hare_cell_40
    · refine dk_bipush (v := -11) X (by decide) d_Hare_cell_26 ?_
      exact dk_reti hR hF d_Hare_cell_28
  · refine dk_bipush (v := -2) X (by decide) d_Hare_cell_7 ?_
    exact dk_reti hR hF d_Hare_cell_9
def F_Hare_cell (n T : Nat) (x1 : Int32) (x2 : Int32) (x3 : Int32) (S : dk_S) : Option (Int32 × dk_S) := B_Hare_cell_0 n T x1 x2 x3 S
theorem c_Hare_cell (l : Launch) (g : dk_G) (ad : Nat → Nat) (T n : Nat) (x1 : Int32) (x2 : Int32) (x3 : Int32)  (S : dk_S) : dk_Mi l g y_Hare_cell b_Hare_cell 5 rm_Hare_cell (some .int) [.ref (ad 0), .int x1, .int x2, .int x3] (wC g ad T) S (F_Hare_cell n T x1 x2 x3 S) := dk_enteri (by decide) (Nat.le_of_ble_eq_true rfl) (fun p e s m args below meth c A Q res hF X hR => (kb_Hare_cell_0 (n := n) X hR  hF))
abbrev b_Hare_copy : ByteArray := prog_1_method_31_code
def y_Hare_copy : MethodName := ⟨R_Hare, "copy", "(IIIII)I"⟩
theorem d_Hare_copy_0 : decode b_Hare_copy 0 = .ok (.iload_n 1, 1) := by decide +kernel
theorem d_Hare_copy_1 : decode b_Hare_copy 1 = .ok (.invokestatic 218, 3) := by decide +kernel
theorem d_Hare_copy_4 : decode b_Hare_copy 4 = .ok (.ifCond .eq 10, 3) := by decide +kernel
theorem d_Hare_copy_7 : decode b_Hare_copy 7 = .ok (.iload_n 3, 1) := by decide +kernel
theorem d_Hare_copy_8 : decode b_Hare_copy 8 = .ok (.invokestatic 218, 3) := by decide +kernel
theorem d_Hare_copy_11 : decode b_Hare_copy 11 = .ok (.ifCond .ne 6, 3) := by decide +kernel
theorem d_Hare_copy_14 : decode b_Hare_copy 14 = .ok (.bipush (-2), 2) := by decide +kernel
theorem d_Hare_copy_16 : decode b_Hare_copy 16 = .ok (.ireturn, 1) := by decide +kernel
theorem d_Hare_copy_17 : decode b_Hare_copy 17 = .ok (.aload_n 0, 1) := by decide +kernel
theorem d_Hare_copy_18 : decode b_Hare_copy 18 = .ok (.getfield 66, 3) := by decide +kernel
theorem d_Hare_copy_21 : decode b_Hare_copy 21 = .ok (.iload_n 1, 1) := by decide +kernel
theorem d_Hare_copy_22 : decode b_Hare_copy 22 = .ok (.aaload, 1) := by decide +kernel
theorem d_Hare_copy_23 : decode b_Hare_copy 23 = .ok (.astore 6, 2) := by decide +kernel
theorem d_Hare_copy_25 : decode b_Hare_copy 25 = .ok (.aload_n 0, 1) := by decide +kernel
theorem d_Hare_copy_26 : decode b_Hare_copy 26 = .ok (.getfield 66, 3) := by decide +kernel
theorem d_Hare_copy_29 : decode b_Hare_copy 29 = .ok (.iload_n 3, 1) := by decide +kernel
theorem d_Hare_copy_30 : decode b_Hare_copy 30 = .ok (.aaload, 1) := by decide +kernel
theorem d_Hare_copy_31 : decode b_Hare_copy 31 = .ok (.astore 7, 2) := by decide +kernel
theorem d_Hare_copy_33 : decode b_Hare_copy 33 = .ok (.aload 6, 2) := by decide +kernel
theorem d_Hare_copy_35 : decode b_Hare_copy 35 = .ok (.invokevirtual 221, 3) := by decide +kernel
theorem d_Hare_copy_38 : decode b_Hare_copy 38 = .ok (.ifCond .ne 11, 3) := by decide +kernel
theorem d_Hare_copy_41 : decode b_Hare_copy 41 = .ok (.aload 7, 2) := by decide +kernel
theorem d_Hare_copy_43 : decode b_Hare_copy 43 = .ok (.invokevirtual 221, 3) := by decide +kernel
theorem d_Hare_copy_46 : decode b_Hare_copy 46 = .ok (.ifCond .eq 6, 3) := by decide +kernel
theorem d_Hare_copy_49 : decode b_Hare_copy 49 = .ok (.bipush (-11), 2) := by decide +kernel
theorem d_Hare_copy_51 : decode b_Hare_copy 51 = .ok (.ireturn, 1) := by decide +kernel
theorem d_Hare_copy_52 : decode b_Hare_copy 52 = .ok (.aload 6, 2) := by decide +kernel
theorem d_Hare_copy_54 : decode b_Hare_copy 54 = .ok (.getfield 279, 3) := by decide +kernel
theorem d_Hare_copy_57 : decode b_Hare_copy 57 = .ok (.aload 7, 2) := by decide +kernel
theorem d_Hare_copy_59 : decode b_Hare_copy 59 = .ok (.getfield 279, 3) := by decide +kernel
theorem d_Hare_copy_62 : decode b_Hare_copy 62 = .ok (.if_icmp .eq 6, 3) := by decide +kernel
theorem d_Hare_copy_65 : decode b_Hare_copy 65 = .ok (.bipush (-13), 2) := by decide +kernel
theorem d_Hare_copy_67 : decode b_Hare_copy 67 = .ok (.ireturn, 1) := by decide +kernel
theorem d_Hare_copy_68 : decode b_Hare_copy 68 = .ok (.aload 6, 2) := by decide +kernel
theorem d_Hare_copy_70 : decode b_Hare_copy 70 = .ok (.iload_n 2, 1) := by decide +kernel
theorem d_Hare_copy_71 : decode b_Hare_copy 71 = .ok (.iload 5, 2) := by decide +kernel
theorem d_Hare_copy_73 : decode b_Hare_copy 73 = .ok (.invokevirtual 282, 3) := by decide +kernel
theorem d_Hare_copy_76 : decode b_Hare_copy 76 = .ok (.ifCond .eq 15, 3) := by decide +kernel
theorem d_Hare_copy_79 : decode b_Hare_copy 79 = .ok (.aload 7, 2) := by decide +kernel
theorem d_Hare_copy_81 : decode b_Hare_copy 81 = .ok (.iload 4, 2) := by decide +kernel
theorem d_Hare_copy_83 : decode b_Hare_copy 83 = .ok (.iload 5, 2) := by decide +kernel
theorem d_Hare_copy_85 : decode b_Hare_copy 85 = .ok (.invokevirtual 282, 3) := by decide +kernel
theorem d_Hare_copy_88 : decode b_Hare_copy 88 = .ok (.ifCond .ne 6, 3) := by decide +kernel
theorem d_Hare_copy_91 : decode b_Hare_copy 91 = .ok (.bipush (-12), 2) := by decide +kernel
theorem d_Hare_copy_93 : decode b_Hare_copy 93 = .ok (.ireturn, 1) := by decide +kernel
theorem d_Hare_copy_94 : decode b_Hare_copy 94 = .ok (.aload 6, 2) := by decide +kernel
theorem d_Hare_copy_96 : decode b_Hare_copy 96 = .ok (.getfield 233, 3) := by decide +kernel
theorem d_Hare_copy_99 : decode b_Hare_copy 99 = .ok (.iload_n 2, 1) := by decide +kernel
theorem d_Hare_copy_100 : decode b_Hare_copy 100 = .ok (.aload 7, 2) := by decide +kernel
theorem d_Hare_copy_102 : decode b_Hare_copy 102 = .ok (.getfield 233, 3) := by decide +kernel
theorem d_Hare_copy_105 : decode b_Hare_copy 105 = .ok (.iload 4, 2) := by decide +kernel
theorem d_Hare_copy_107 : decode b_Hare_copy 107 = .ok (.iload 5, 2) := by decide +kernel
theorem d_Hare_copy_109 : decode b_Hare_copy 109 = .ok (.invokestatic 286, 3) := by decide +kernel
theorem d_Hare_copy_112 : decode b_Hare_copy 112 = .ok (.iload 5, 2) := by decide +kernel
theorem d_Hare_copy_114 : decode b_Hare_copy 114 = .ok (.ireturn, 1) := by decide +kernel
theorem v_Hare_copy : dk_Yv y_Hare_copy b_Hare_copy 8 (some .int) 5 := ⟨dk_in (List.mem_of_getElem? (i := 909) (by decide +kernel)) rfl, dk_in (List.mem_of_getElem? (i := 910) (by decide +kernel)) rfl, dk_in (List.mem_of_getElem? (i := 66) (by decide +kernel)) rfl, dk_in (List.mem_of_getElem? (i := 911) (by decide +kernel)) rfl, by decide +kernel, by decide +kernel, by decide +kernel⟩
abbrev rm_Hare_copy : Room := { frames := 1, cells := 0, slots := 0, locals := 30 }
theorem f_Hare_279 : Cond.fieldLink R_Hare 279 (T_Sheet 1).1 (T_Sheet 1).2.1 (T_Sheet 1).2.2.1 ∈ dk_tb := dk_in (List.mem_of_getElem? (i := 335) (by decide +kernel)) rfl
theorem m_Hare_282 : Cond.methodLink R_Hare 282 y_Sheet_hasRun ∈ dk_tb := dk_in (List.mem_of_getElem? (i := 912) (by decide +kernel)) rfl
theorem mm_Hare_286 : Cond.methodLink R_Hare 286 arraycopyName ∈ dk_tb := dk_in (List.mem_of_getElem? (i := 916) (by decide +kernel)) rfl
def B_Hare_copy_0 (n T : Nat)  (x1 : Int32) (x2 : Int32) (x3 : Int32) (x4 : Int32) (x5 : Int32) (S : dk_S) : Option (Int32 × dk_S) :=
  dk_c (F_Hare_isSheet n T x1 S) fun r2 S1 => if r2 = 0 then (some ((-2 : Int32), S1)) else (dk_c (F_Hare_isSheet n T x3 S1) fun r4 S3 => if ¬ r4 = 0 then (dk_sh x1 fun j5 => dk_sh x3 fun j6 => dk_c (F_Sheet_isMissing n T j5 S3) fun r8 S7 => if ¬ r8 = 0 then (some ((-11 : Int32), S7)) else (dk_c (F_Sheet_isMissing n T j6 S7) fun r10 S9 => if r10 = 0 then (if (S9 (160 + j5) 0) = (S9 (160 + j6) 0) then (dk_c (F_Sheet_hasRun n T j5 x2 x5 S9) fun r12 S11 => if r12 = 0 then (some ((-12 : Int32), S11)) else (dk_c (F_Sheet_hasRun n T j6 x4 x5 S11) fun r14 S13 => if ¬ r14 = 0 then (dk_cp S13 (36 + 2 * j5) (36 + 2 * j6) 40 40 x2 x4 x5 fun S15 => some (x5, S15)) else (some ((-12 : Int32), S13)))) else (some ((-13 : Int32), S9))) else (some ((-11 : Int32), S9)))) else (some ((-2 : Int32), S3)))
set_option maxRecDepth 20000 in
theorem kb_Hare_copy_0 {p : Program} {l : Launch} {e : Env} {s : State} {m : MethodId} {args : Array Value} {below : List Frame} {meth : Method} {c : Code} {g : dk_G} {A : Nat → Prop} {Q : State → Prop} {ad : Nat → Nat} {T : Nat} {n : Nat} {res : (Int32 × dk_S)} (X : dk_X p s m args meth c b_Hare_copy 8 R_Hare (some .int) g A) (hR : dk_Ri p l e rm_Hare_copy s m args below meth c g A Q 8 b_Hare_copy (some .int) (wC g ad T) res)  {x1 : Int32} {x2 : Int32} {x3 : Int32} {x4 : Int32} {x5 : Int32} {S : dk_S}  (hF : B_Hare_copy_0 n T  x1 x2 x3 x4 x5 S = some res) : dk_J p l e rm_Hare_copy s m args below meth c g A Q 8 0 0 0 [(0, .ref (ad 0)), (1, .int x1), (2, .int x2), (3, .int x3), (4, .int x4), (5, .int x5)] [] (wC g ad T S) := by
  unfold B_Hare_copy_0 at hF
  refine dk_iload_n (k := 1) (i := 1) X 1 rfl rfl d_Hare_copy_0 ?_
  refine dk_callSi X v_Hare_isSheet [.int x1] (c_Hare_isSheet l g ad T n x1 S) m_Hare_218 rfl rfl ⟨rfl, rfl, Nat.le_of_ble_eq_true rfl, Nat.le_of_ble_eq_true rfl, Nat.le_refl _, Nat.le_refl _⟩ (Nat.le_of_ble_eq_true rfl) d_Hare_copy_1 hF (fun r2 S1 hF => ?_)
  refine dk_if_eq (tgt := 14) X (by decide) d_Hare_copy_4 hF (fun hF => ?_) (fun hF => ?_)
  · refine dk_bipush (v := -2) X (by decide) d_Hare_copy_14 ?_
    exact dk_reti hR hF d_Hare_copy_16
  · refine dk_iload_n (k := 3) (i := 3) X 3 rfl rfl d_Hare_copy_7 ?_
    refine dk_callSi X v_Hare_isSheet [.int x3] (c_Hare_isSheet l g ad T n x3 S1) m_Hare_218 rfl rfl ⟨rfl, rfl, Nat.le_of_ble_eq_true rfl, Nat.le_of_ble_eq_true rfl, Nat.le_refl _, Nat.le_refl _⟩ (Nat.le_of_ble_eq_true rfl) d_Hare_copy_8 hF (fun r4 S3 hF => ?_)
    refine dk_if_ne (tgt := 17) X (by decide) d_Hare_copy_11 hF (fun hF => ?_) (fun hF => ?_)
    · refine dk_aload_n (k := 0) (i := 0) X 0 rfl rfl d_Hare_copy_17 ?_
      refine dk_get X q_Hare 0 6 (by decide) (oC_Hare g ad T S3) rfl f_Hare_66 d_Hare_copy_18 ?_
      refine dk_iload_n (k := 1) (i := 1) X 1 rfl rfl d_Hare_copy_21 ?_
      refine dk_shld X d_Hare_copy_22 hF (fun j5 hj5 hF => ?_)
      refine dk_astore (i := 6) (lv' := [(6, .ref (ad (35 + 2 * j5))), (0, .ref (ad 0)), (1, .int x1), (2, .int x2), (3, .int x3), (4, .int x4), (5, .int x5)]) X (by decide) rfl d_Hare_copy_23 ?_
      refine dk_aload_n (k := 0) (i := 0) X 1 rfl rfl d_Hare_copy_25 ?_
      refine dk_get X q_Hare 0 6 (by decide) (oC_Hare g ad T S3) rfl f_Hare_66 d_Hare_copy_26 ?_
      refine dk_iload_n (k := 3) (i := 3) X 4 rfl rfl d_Hare_copy_29 ?_
      refine dk_shld X d_Hare_copy_30 hF (fun j6 hj6 hF => ?_)
      refine dk_astore (i := 7) (lv' := [(7, .ref (ad (35 + 2 * j6))), (6, .ref (ad (35 + 2 * j5))), (0, .ref (ad 0)), (1, .int x1), (2, .int x2), (3, .int x3), (4, .int x4), (5, .int x5)]) X (by decide) rfl d_Hare_copy_31 ?_
      refine dk_aload (i := 6) X 1 rfl d_Hare_copy_33 ?_
      refine dk_callVi X v_Sheet_isMissing [] (c_Sheet_isMissing l g ad T n j5 hj5 S3) (35 + 2 * j5) (oC_Sheet g ad T S3 j5 hj5) rfl rfl m_Hare_221 rfl rfl ⟨rfl, rfl, Nat.le_of_ble_eq_true rfl, Nat.le_of_ble_eq_true rfl, Nat.le_refl _, Nat.le_refl _⟩ (Nat.le_of_ble_eq_true rfl) d_Hare_copy_35 hF (fun r8 S7 hF => ?_)
      refine dk_if_ne (tgt := 49) X (by decide) d_Hare_copy_38 hF (fun hF => ?_) (fun hF => ?_)
      · refine dk_bipush (v := -11) X (by decide) d_Hare_copy_49 ?_
        exact dk_reti hR hF d_Hare_copy_51
      · refine dk_aload (i := 7) X 0 rfl d_Hare_copy_41 ?_
        refine dk_callVi X v_Sheet_isMissing [] (c_Sheet_isMissing l g ad T n j6 hj6 S7) (35 + 2 * j6) (oC_Sheet g ad T S7 j6 hj6) rfl rfl m_Hare_221 rfl rfl ⟨rfl, rfl, Nat.le_of_ble_eq_true rfl, Nat.le_of_ble_eq_true rfl, Nat.le_refl _, Nat.le_refl _⟩ (Nat.le_of_ble_eq_true rfl) d_Hare_copy_43 hF (fun r10 S9 hF => ?_)
        refine dk_if_eq (tgt := 52) X (by decide) d_Hare_copy_46 hF (fun hF => ?_) (fun hF => ?_)
        · refine dk_aload (i := 6) X 1 rfl d_Hare_copy_52 ?_
          refine dk_get X q_Sheet (35 + 2 * j5) 1 (by decide) (oC_Sheet g ad T S9 j5 hj5) rfl f_Hare_279 d_Hare_copy_54 ?_
          refine dk_aload (i := 7) X 0 rfl d_Hare_copy_57 ?_
          refine dk_get X q_Sheet (35 + 2 * j6) 1 (by decide) (oC_Sheet g ad T S9 j6 hj6) rfl f_Hare_279 d_Hare_copy_59 ?_
          refine dk_icmp_eq (tgt := 68) X (by decide) d_Hare_copy_62 hF (fun hF => ?_) (fun hF => ?_)
          · refine dk_aload (i := 6) X 1 rfl d_Hare_copy_68 ?_
            refine dk_iload_n (k := 2) (i := 2) X 4 rfl rfl d_Hare_copy_70 ?_
            refine dk_iload (i := 5) X 7 rfl d_Hare_copy_71 ?_
            refine dk_callVi X v_Sheet_hasRun [.int x2, .int x5] (c_Sheet_hasRun l g ad T n j5 x2 x5 hj5 S9) (35 + 2 * j5) (oC_Sheet g ad T S9 j5 hj5) rfl rfl m_Hare_282 rfl rfl ⟨rfl, rfl, Nat.le_of_ble_eq_true rfl, Nat.le_of_ble_eq_true rfl, Nat.le_refl _, Nat.le_refl _⟩ (Nat.le_of_ble_eq_true rfl) d_Hare_copy_73 hF (fun r12 S11 hF => ?_)
            refine dk_if_eq (tgt := 91) X (by decide) d_Hare_copy_76 hF (fun hF => ?_) (fun hF => ?_)
            · refine dk_bipush (v := -12) X (by decide) d_Hare_copy_91 ?_
              exact dk_reti hR hF d_Hare_copy_93
            · refine dk_aload (i := 7) X 0 rfl d_Hare_copy_79 ?_
              refine dk_iload (i := 4) X 6 rfl d_Hare_copy_81 ?_
              refine dk_iload (i := 5) X 7 rfl d_Hare_copy_83 ?_
              refine dk_callVi X v_Sheet_hasRun [.int x4, .int x5] (c_Sheet_hasRun l g ad T n j6 x4 x5 hj6 S11) (35 + 2 * j6) (oC_Sheet g ad T S11 j6 hj6) rfl rfl m_Hare_282 rfl rfl ⟨rfl, rfl, Nat.le_of_ble_eq_true rfl, Nat.le_of_ble_eq_true rfl, Nat.le_refl _, Nat.le_refl _⟩ (Nat.le_of_ble_eq_true rfl) d_Hare_copy_85 hF (fun r14 S13 hF => ?_)
              refine dk_if_ne (tgt := 94) X (by decide) d_Hare_copy_88 hF (fun hF => ?_) (fun hF => ?_)
              · refine dk_aload (i := 6) X 1 rfl d_Hare_copy_94 ?_
                refine dk_get X q_Sheet (35 + 2 * j5) 0 (by decide) (oC_Sheet g ad T S13 j5 hj5) rfl f_Hare_233 d_Hare_copy_96 ?_
                refine dk_iload_n (k := 2) (i := 2) X 4 rfl rfl d_Hare_copy_99 ?_
                refine dk_aload (i := 7) X 0 rfl d_Hare_copy_100 ?_
                refine dk_get X q_Sheet (35 + 2 * j6) 0 (by decide) (oC_Sheet g ad T S13 j6 hj6) rfl f_Hare_233 d_Hare_copy_102 ?_
                refine dk_iload (i := 4) X 6 rfl d_Hare_copy_105 ?_
                refine dk_iload (i := 5) X 7 rfl d_Hare_copy_107 ?_
                refine dk_acopy X (36 + 2 * j5) (36 + 2 * j6) (aC_row g ad T S13 j5 hj5) (aC_row g ad T S13 j6 hj6) (zC_row g ad T S13 _ j6 hj6) mm_Hare_286 (Nat.le_of_ble_eq_true rfl) (Nat.le_of_ble_eq_true rfl) d_Hare_copy_109 hF (fun S15 hF => ?_)
                refine dk_iload (i := 5) X 7 rfl d_Hare_copy_112 ?_
                exact dk_reti hR hF d_Hare_copy_114
              · refine dk_bipush (v := -12) X (by decide) d_Hare_copy_91 ?_
                exact dk_reti hR hF d_Hare_copy_93
          · refine dk_bipush (v := -13) X (by decide) d_Hare_copy_65 ?_
            exact dk_reti hR hF d_Hare_copy_67
        · refine dk_bipush (v := -11) X (by decide) d_Hare_copy_49 ?_
          exact dk_reti hR hF d_Hare_copy_51
    · refine dk_bipush (v := -2) X (by decide) d_Hare_copy_14 ?_
      exact dk_reti hR hF d_Hare_copy_16
def F_Hare_copy (n T : Nat) (x1 : Int32) (x2 : Int32) (x3 : Int32) (x4 : Int32) (x5 : Int32) (S : dk_S) : Option (Int32 × dk_S) := B_Hare_copy_0 n T x1 x2 x3 x4 x5 S
theorem c_Hare_copy (l : Launch) (g : dk_G) (ad : Nat → Nat) (T n : Nat) (x1 : Int32) (x2 : Int32) (x3 : Int32) (x4 : Int32) (x5 : Int32)  (S : dk_S) : dk_Mi l g y_Hare_copy b_Hare_copy 8 rm_Hare_copy (some .int) [.ref (ad 0), .int x1, .int x2, .int x3, .int x4, .int x5] (wC g ad T) S (F_Hare_copy n T x1 x2 x3 x4 x5 S) := dk_enteri (by decide) (Nat.le_of_ble_eq_true rfl) (fun p e s m args below meth c A Q res hF X hR => (kb_Hare_copy_0 (n := n) X hR  hF))
abbrev b_Hare_tell : ByteArray := prog_1_method_32_code
def y_Hare_tell : MethodName := ⟨R_Hare, "tell", "(IIII)I"⟩
theorem d_Hare_tell_0 : decode b_Hare_tell 0 = .ok (.iload_n 1, 1) := by decide +kernel
theorem d_Hare_tell_1 : decode b_Hare_tell 1 = .ok (.invokestatic 218, 3) := by decide +kernel
theorem d_Hare_tell_4 : decode b_Hare_tell 4 = .ok (.ifCond .eq 24, 3) := by decide +kernel
theorem d_Hare_tell_7 : decode b_Hare_tell 7 = .ok (.iload_n 2, 1) := by decide +kernel
theorem d_Hare_tell_8 : decode b_Hare_tell 8 = .ok (.ifCond .lt 20, 3) := by decide +kernel
theorem d_Hare_tell_11 : decode b_Hare_tell 11 = .ok (.iload_n 2, 1) := by decide +kernel
theorem d_Hare_tell_12 : decode b_Hare_tell 12 = .ok (.iconst 3, 1) := by decide +kernel
theorem d_Hare_tell_13 : decode b_Hare_tell 13 = .ok (.if_icmp .ge 15, 3) := by decide +kernel
theorem d_Hare_tell_16 : decode b_Hare_tell 16 = .ok (.iload 4, 2) := by decide +kernel
theorem d_Hare_tell_18 : decode b_Hare_tell 18 = .ok (.ifCond .lt 10, 3) := by decide +kernel
theorem d_Hare_tell_21 : decode b_Hare_tell 21 = .ok (.iload 4, 2) := by decide +kernel
theorem d_Hare_tell_23 : decode b_Hare_tell 23 = .ok (.bipush 8, 2) := by decide +kernel
theorem d_Hare_tell_25 : decode b_Hare_tell 25 = .ok (.if_icmp .le 6, 3) := by decide +kernel
theorem d_Hare_tell_28 : decode b_Hare_tell 28 = .ok (.bipush (-2), 2) := by decide +kernel
theorem d_Hare_tell_30 : decode b_Hare_tell 30 = .ok (.ireturn, 1) := by decide +kernel
theorem d_Hare_tell_31 : decode b_Hare_tell 31 = .ok (.aload_n 0, 1) := by decide +kernel
theorem d_Hare_tell_32 : decode b_Hare_tell 32 = .ok (.getfield 66, 3) := by decide +kernel
theorem d_Hare_tell_35 : decode b_Hare_tell 35 = .ok (.iload_n 1, 1) := by decide +kernel
theorem d_Hare_tell_36 : decode b_Hare_tell 36 = .ok (.aaload, 1) := by decide +kernel
theorem d_Hare_tell_37 : decode b_Hare_tell 37 = .ok (.astore 5, 2) := by decide +kernel
theorem d_Hare_tell_39 : decode b_Hare_tell 39 = .ok (.aload 5, 2) := by decide +kernel
theorem d_Hare_tell_41 : decode b_Hare_tell 41 = .ok (.invokevirtual 221, 3) := by decide +kernel
theorem d_Hare_tell_44 : decode b_Hare_tell 44 = .ok (.ifCond .eq 6, 3) := by decide +kernel
theorem d_Hare_tell_47 : decode b_Hare_tell 47 = .ok (.bipush (-11), 2) := by decide +kernel
theorem d_Hare_tell_49 : decode b_Hare_tell 49 = .ok (.ireturn, 1) := by decide +kernel
theorem d_Hare_tell_50 : decode b_Hare_tell 50 = .ok (.aload 5, 2) := by decide +kernel
theorem d_Hare_tell_52 : decode b_Hare_tell 52 = .ok (.getfield 279, 3) := by decide +kernel
theorem d_Hare_tell_55 : decode b_Hare_tell 55 = .ok (.iload_n 2, 1) := by decide +kernel
theorem d_Hare_tell_56 : decode b_Hare_tell 56 = .ok (.if_icmp .eq 6, 3) := by decide +kernel
theorem d_Hare_tell_59 : decode b_Hare_tell 59 = .ok (.bipush (-13), 2) := by decide +kernel
theorem d_Hare_tell_61 : decode b_Hare_tell 61 = .ok (.ireturn, 1) := by decide +kernel
theorem d_Hare_tell_62 : decode b_Hare_tell 62 = .ok (.iconst 0, 1) := by decide +kernel
theorem d_Hare_tell_63 : decode b_Hare_tell 63 = .ok (.istore 6, 2) := by decide +kernel
theorem d_Hare_tell_65 : decode b_Hare_tell 65 = .ok (.iconst 0, 1) := by decide +kernel
theorem d_Hare_tell_66 : decode b_Hare_tell 66 = .ok (.istore 7, 2) := by decide +kernel
theorem d_Hare_tell_68 : decode b_Hare_tell 68 = .ok (.iload 7, 2) := by decide +kernel
theorem d_Hare_tell_70 : decode b_Hare_tell 70 = .ok (.iload 4, 2) := by decide +kernel
theorem d_Hare_tell_72 : decode b_Hare_tell 72 = .ok (.if_icmp .ge 81, 3) := by decide +kernel
theorem d_Hare_tell_75 : decode b_Hare_tell 75 = .ok (.iload_n 3, 1) := by decide +kernel
theorem d_Hare_tell_76 : decode b_Hare_tell 76 = .ok (.iconst 5, 1) := by decide +kernel
theorem d_Hare_tell_77 : decode b_Hare_tell 77 = .ok (.iload 7, 2) := by decide +kernel
theorem d_Hare_tell_79 : decode b_Hare_tell 79 = .ok (.imul, 1) := by decide +kernel
theorem d_Hare_tell_80 : decode b_Hare_tell 80 = .ok (.iadd, 1) := by decide +kernel
theorem d_Hare_tell_81 : decode b_Hare_tell 81 = .ok (.istore 8, 2) := by decide +kernel
theorem d_Hare_tell_83 : decode b_Hare_tell 83 = .ok (.aload 5, 2) := by decide +kernel
theorem d_Hare_tell_85 : decode b_Hare_tell 85 = .ok (.iload 8, 2) := by decide +kernel
theorem d_Hare_tell_87 : decode b_Hare_tell 87 = .ok (.iconst 5, 1) := by decide +kernel
theorem d_Hare_tell_88 : decode b_Hare_tell 88 = .ok (.invokevirtual 282, 3) := by decide +kernel
theorem d_Hare_tell_91 : decode b_Hare_tell 91 = .ok (.ifCond .ne 6, 3) := by decide +kernel
theorem d_Hare_tell_94 : decode b_Hare_tell 94 = .ok (.bipush (-12), 2) := by decide +kernel
theorem d_Hare_tell_96 : decode b_Hare_tell 96 = .ok (.ireturn, 1) := by decide +kernel
theorem d_Hare_tell_97 : decode b_Hare_tell 97 = .ok (.aload 5, 2) := by decide +kernel
theorem d_Hare_tell_99 : decode b_Hare_tell 99 = .ok (.getfield 233, 3) := by decide +kernel
theorem d_Hare_tell_102 : decode b_Hare_tell 102 = .ok (.astore 9, 2) := by decide +kernel
theorem d_Hare_tell_104 : decode b_Hare_tell 104 = .ok (.aload_n 0, 1) := by decide +kernel
theorem d_Hare_tell_105 : decode b_Hare_tell 105 = .ok (.aload 9, 2) := by decide +kernel
theorem d_Hare_tell_107 : decode b_Hare_tell 107 = .ok (.iload 8, 2) := by decide +kernel
theorem d_Hare_tell_109 : decode b_Hare_tell 109 = .ok (.iaload, 1) := by decide +kernel
theorem d_Hare_tell_110 : decode b_Hare_tell 110 = .ok (.aload 9, 2) := by decide +kernel
theorem d_Hare_tell_112 : decode b_Hare_tell 112 = .ok (.iload 8, 2) := by decide +kernel
theorem d_Hare_tell_114 : decode b_Hare_tell 114 = .ok (.iconst 1, 1) := by decide +kernel
theorem d_Hare_tell_115 : decode b_Hare_tell 115 = .ok (.iadd, 1) := by decide +kernel
theorem d_Hare_tell_116 : decode b_Hare_tell 116 = .ok (.iaload, 1) := by decide +kernel
theorem d_Hare_tell_117 : decode b_Hare_tell 117 = .ok (.aload 9, 2) := by decide +kernel
theorem d_Hare_tell_119 : decode b_Hare_tell 119 = .ok (.iload 8, 2) := by decide +kernel
theorem d_Hare_tell_121 : decode b_Hare_tell 121 = .ok (.iconst 2, 1) := by decide +kernel
theorem d_Hare_tell_122 : decode b_Hare_tell 122 = .ok (.iadd, 1) := by decide +kernel
theorem d_Hare_tell_123 : decode b_Hare_tell 123 = .ok (.iaload, 1) := by decide +kernel
theorem d_Hare_tell_124 : decode b_Hare_tell 124 = .ok (.aload 9, 2) := by decide +kernel
theorem d_Hare_tell_126 : decode b_Hare_tell 126 = .ok (.iload 8, 2) := by decide +kernel
theorem d_Hare_tell_128 : decode b_Hare_tell 128 = .ok (.iconst 3, 1) := by decide +kernel
theorem d_Hare_tell_129 : decode b_Hare_tell 129 = .ok (.iadd, 1) := by decide +kernel
theorem d_Hare_tell_130 : decode b_Hare_tell 130 = .ok (.iaload, 1) := by decide +kernel
theorem d_Hare_tell_131 : decode b_Hare_tell 131 = .ok (.aload 9, 2) := by decide +kernel
theorem d_Hare_tell_133 : decode b_Hare_tell 133 = .ok (.iload 8, 2) := by decide +kernel
theorem d_Hare_tell_135 : decode b_Hare_tell 135 = .ok (.iconst 4, 1) := by decide +kernel
theorem d_Hare_tell_136 : decode b_Hare_tell 136 = .ok (.iadd, 1) := by decide +kernel
theorem d_Hare_tell_137 : decode b_Hare_tell 137 = .ok (.iaload, 1) := by decide +kernel
theorem d_Hare_tell_138 : decode b_Hare_tell 138 = .ok (.invokevirtual 292, 3) := by decide +kernel
theorem d_Hare_tell_141 : decode b_Hare_tell 141 = .ok (.ifCond .lt 6, 3) := by decide +kernel
theorem d_Hare_tell_144 : decode b_Hare_tell 144 = .ok (.iinc 6 1, 3) := by decide +kernel
theorem d_Hare_tell_147 : decode b_Hare_tell 147 = .ok (.iinc 7 1, 3) := by decide +kernel
theorem d_Hare_tell_150 : decode b_Hare_tell 150 = .ok (.goto (-82), 3) := by decide +kernel
theorem d_Hare_tell_153 : decode b_Hare_tell 153 = .ok (.iload 6, 2) := by decide +kernel
theorem d_Hare_tell_155 : decode b_Hare_tell 155 = .ok (.ireturn, 1) := by decide +kernel
theorem v_Hare_tell : dk_Yv y_Hare_tell b_Hare_tell 10 (some .int) 4 := ⟨dk_in (List.mem_of_getElem? (i := 918) (by decide +kernel)) rfl, dk_in (List.mem_of_getElem? (i := 919) (by decide +kernel)) rfl, dk_in (List.mem_of_getElem? (i := 66) (by decide +kernel)) rfl, dk_in (List.mem_of_getElem? (i := 920) (by decide +kernel)) rfl, by decide +kernel, by decide +kernel, by decide +kernel⟩
abbrev rm_Hare_tell : Room := { frames := 2, cells := 0, slots := 0, locals := 50 }
theorem m_Hare_292 : Cond.methodLink R_Hare 292 y_Hare_moment ∈ dk_tb := dk_in (List.mem_of_getElem? (i := 921) (by decide +kernel)) rfl
def B_Hare_tell_147 (n T : Nat) (k68 : Int32 → Int32 → Nat → Int32 → Int32 → dk_S → Option (Int32 × dk_S)) (x3 : Int32) (x4 : Int32) (jx5 : Nat) (x6 : Int32) (x7 : Int32) (S : dk_S) : Option (Int32 × dk_S) :=
  k68 x3 x4 jx5 x6 (x7 + (1 : Int32)) S
set_option maxRecDepth 20000 in
theorem kb_Hare_tell_147 {p : Program} {l : Launch} {e : Env} {s : State} {m : MethodId} {args : Array Value} {below : List Frame} {meth : Method} {c : Code} {g : dk_G} {A : Nat → Prop} {Q : State → Prop} {ad : Nat → Nat} {T : Nat} {n : Nat} {res : (Int32 × dk_S)} (X : dk_X p s m args meth c b_Hare_tell 10 R_Hare (some .int) g A) (hR : dk_Ri p l e rm_Hare_tell s m args below meth c g A Q 10 b_Hare_tell (some .int) (wC g ad T) res) {k68 : Int32 → Int32 → Nat → Int32 → Int32 → dk_S → Option (Int32 × dk_S)} (hk68 : ∀ (x3 : Int32) (x4 : Int32) (jx5 : Nat) (x6 : Int32) (x7 : Int32) (hx5 : jx5 < 4) (S : dk_S), k68 x3 x4 jx5 x6 x7 S = some res → dk_J p l e rm_Hare_tell s m args below meth c g A Q 10 0 0 68 [(0, .ref (ad 0)), (3, .int x3), (4, .int x4), (5, .ref (ad (35 + 2 * jx5))), (6, .int x6), (7, .int x7)] [] (wC g ad T S)) {x3 : Int32} {x4 : Int32} {jx5 : Nat} {x6 : Int32} {x7 : Int32} {S : dk_S} (hx5 : jx5 < 4) (hF : B_Hare_tell_147 n T k68 x3 x4 jx5 x6 x7 S = some res) : dk_J p l e rm_Hare_tell s m args below meth c g A Q 10 0 0 147 [(0, .ref (ad 0)), (3, .int x3), (4, .int x4), (5, .ref (ad (35 + 2 * jx5))), (6, .int x6), (7, .int x7)] [] (wC g ad T S) := by
  unfold B_Hare_tell_147 at hF
  refine dk_iinc (i := 7) (v := (x7 + (1 : Int32))) (lv' := [(7, .int (x7 + (1 : Int32))), (0, .ref (ad 0)), (3, .int x3), (4, .int x4), (5, .ref (ad (35 + 2 * jx5))), (6, .int x6)]) X 5 rfl (dk_ii _ (by decide)) (by decide) rfl d_Hare_tell_147 ?_
  refine dk_goto (tgt := 68) X (by decide) d_Hare_tell_150 ?_
  exact dk_sub [1, 2, 3, 4, 5, 0] rfl (hk68 x3 x4 jx5 x6 (x7 + (1 : Int32)) hx5 S hF)
def B_Hare_tell_68b (n T : Nat) (k68 : Int32 → Int32 → Nat → Int32 → Int32 → dk_S → Option (Int32 × dk_S)) (x3 : Int32) (x4 : Int32) (jx5 : Nat) (x6 : Int32) (x7 : Int32) (S : dk_S) : Option (Int32 × dk_S) :=
  if x4 ≤ x7 then (some (x6, S)) else (dk_c (F_Sheet_hasRun n T jx5 (x3 + ((5 : Int32) * x7)) (5 : Int32) S) fun r2 S1 => if ¬ r2 = 0 then (dk_r 40 (S1 (36 + 2 * jx5)) (x3 + ((5 : Int32) * x7)) fun v3 => dk_r 40 (S1 (36 + 2 * jx5)) ((x3 + ((5 : Int32) * x7)) + (1 : Int32)) fun v4 => dk_r 40 (S1 (36 + 2 * jx5)) ((x3 + ((5 : Int32) * x7)) + (2 : Int32)) fun v5 => dk_r 40 (S1 (36 + 2 * jx5)) ((x3 + ((5 : Int32) * x7)) + (3 : Int32)) fun v6 => dk_r 40 (S1 (36 + 2 * jx5)) ((x3 + ((5 : Int32) * x7)) + (4 : Int32)) fun v7 => dk_c (F_Hare_moment n T v3 v4 v5 v6 v7 S1) fun r9 S8 => if r9 < 0 then (B_Hare_tell_147 n T k68 x3 x4 jx5 x6 x7 S8) else (B_Hare_tell_147 n T k68 x3 x4 jx5 (x6 + (1 : Int32)) x7 S8)) else (some ((-12 : Int32), S1)))
set_option maxRecDepth 20000 in
theorem kb_Hare_tell_68b {p : Program} {l : Launch} {e : Env} {s : State} {m : MethodId} {args : Array Value} {below : List Frame} {meth : Method} {c : Code} {g : dk_G} {A : Nat → Prop} {Q : State → Prop} {ad : Nat → Nat} {T : Nat} {n : Nat} {res : (Int32 × dk_S)} (X : dk_X p s m args meth c b_Hare_tell 10 R_Hare (some .int) g A) (hR : dk_Ri p l e rm_Hare_tell s m args below meth c g A Q 10 b_Hare_tell (some .int) (wC g ad T) res) {k68 : Int32 → Int32 → Nat → Int32 → Int32 → dk_S → Option (Int32 × dk_S)} (hk68 : ∀ (x3 : Int32) (x4 : Int32) (jx5 : Nat) (x6 : Int32) (x7 : Int32) (hx5 : jx5 < 4) (S : dk_S), k68 x3 x4 jx5 x6 x7 S = some res → dk_J p l e rm_Hare_tell s m args below meth c g A Q 10 0 0 68 [(0, .ref (ad 0)), (3, .int x3), (4, .int x4), (5, .ref (ad (35 + 2 * jx5))), (6, .int x6), (7, .int x7)] [] (wC g ad T S)) {x3 : Int32} {x4 : Int32} {jx5 : Nat} {x6 : Int32} {x7 : Int32} {S : dk_S} (hx5 : jx5 < 4) (hF : B_Hare_tell_68b n T k68 x3 x4 jx5 x6 x7 S = some res) : dk_J p l e rm_Hare_tell s m args below meth c g A Q 10 0 0 68 [(0, .ref (ad 0)), (3, .int x3), (4, .int x4), (5, .ref (ad (35 + 2 * jx5))), (6, .int x6), (7, .int x7)] [] (wC g ad T S) := by
  unfold B_Hare_tell_68b at hF
  refine dk_iload (i := 7) X 5 rfl d_Hare_tell_68 ?_
  refine dk_iload (i := 4) X 2 rfl d_Hare_tell_70 ?_
  refine dk_icmp_ge (tgt := 153) X (by decide) d_Hare_tell_72 hF (fun hF => ?_) (fun hF => ?_)
  · refine dk_iload (i := 6) X 4 rfl d_Hare_tell_153 ?_
    exact dk_reti hR hF d_Hare_tell_155
  · refine dk_iload_n (k := 3) (i := 3) X 1 rfl rfl d_Hare_tell_75 ?_
    refine dk_iconst (v := 5) X (by decide) d_Hare_tell_76 ?_
    refine dk_iload (i := 7) X 5 rfl d_Hare_tell_77 ?_
    refine dk_imul X d_Hare_tell_79 ?_
    refine dk_iadd X d_Hare_tell_80 ?_
    refine dk_istore (i := 8) (lv' := [(8, .int (x3 + ((5 : Int32) * x7))), (0, .ref (ad 0)), (3, .int x3), (4, .int x4), (5, .ref (ad (35 + 2 * jx5))), (6, .int x6), (7, .int x7)]) X (by decide) rfl d_Hare_tell_81 ?_
    refine dk_aload (i := 5) X 4 rfl d_Hare_tell_83 ?_
    refine dk_iload (i := 8) X 0 rfl d_Hare_tell_85 ?_
    refine dk_iconst (v := 5) X (by decide) d_Hare_tell_87 ?_
    refine dk_callVi X v_Sheet_hasRun [.int (x3 + ((5 : Int32) * x7)), .int (5 : Int32)] (c_Sheet_hasRun l g ad T n jx5 (x3 + ((5 : Int32) * x7)) (5 : Int32) hx5 S) (35 + 2 * jx5) (oC_Sheet g ad T S jx5 hx5) rfl rfl m_Hare_282 rfl rfl ⟨rfl, rfl, Nat.le_of_ble_eq_true rfl, Nat.le_of_ble_eq_true rfl, Nat.le_refl _, Nat.le_refl _⟩ (Nat.le_of_ble_eq_true rfl) d_Hare_tell_88 hF (fun r2 S1 hF => ?_)
    refine dk_if_ne (tgt := 97) X (by decide) d_Hare_tell_91 hF (fun hF => ?_) (fun hF => ?_)
    · refine dk_aload (i := 5) X 4 rfl d_Hare_tell_97 ?_
      refine dk_get X q_Sheet (35 + 2 * jx5) 0 (by decide) (oC_Sheet g ad T S1 jx5 hx5) rfl f_Hare_233 d_Hare_tell_99 ?_
      refine dk_astore (i := 9) (lv' := [(9, .ref (ad (36 + 2 * jx5))), (8, .int (x3 + ((5 : Int32) * x7))), (0, .ref (ad 0)), (3, .int x3), (4, .int x4), (5, .ref (ad (35 + 2 * jx5))), (6, .int x6), (7, .int x7)]) X (by decide) rfl d_Hare_tell_102 ?_
      refine dk_aload_n (k := 0) (i := 0) X 2 rfl rfl d_Hare_tell_104 ?_
      refine dk_aload (i := 9) X 0 rfl d_Hare_tell_105 ?_
      refine dk_iload (i := 8) X 1 rfl d_Hare_tell_107 ?_
      refine dk_iald X (36 + 2 * jx5) (aC_row g ad T S1 jx5 hx5) d_Hare_tell_109 hF (fun v3 hF => ?_)
      refine dk_aload (i := 9) X 0 rfl d_Hare_tell_110 ?_
      refine dk_iload (i := 8) X 1 rfl d_Hare_tell_112 ?_
      refine dk_iconst (v := 1) X (by decide) d_Hare_tell_114 ?_
      refine dk_iadd X d_Hare_tell_115 ?_
      refine dk_iald X (36 + 2 * jx5) (aC_row g ad T S1 jx5 hx5) d_Hare_tell_116 hF (fun v4 hF => ?_)
      refine dk_aload (i := 9) X 0 rfl d_Hare_tell_117 ?_
      refine dk_iload (i := 8) X 1 rfl d_Hare_tell_119 ?_
      refine dk_iconst (v := 2) X (by decide) d_Hare_tell_121 ?_
      refine dk_iadd X d_Hare_tell_122 ?_
      refine dk_iald X (36 + 2 * jx5) (aC_row g ad T S1 jx5 hx5) d_Hare_tell_123 hF (fun v5 hF => ?_)
      refine dk_aload (i := 9) X 0 rfl d_Hare_tell_124 ?_
      refine dk_iload (i := 8) X 1 rfl d_Hare_tell_126 ?_
      refine dk_iconst (v := 3) X (by decide) d_Hare_tell_128 ?_
      refine dk_iadd X d_Hare_tell_129 ?_
      refine dk_iald X (36 + 2 * jx5) (aC_row g ad T S1 jx5 hx5) d_Hare_tell_130 hF (fun v6 hF => ?_)
      refine dk_aload (i := 9) X 0 rfl d_Hare_tell_131 ?_
      refine dk_iload (i := 8) X 1 rfl d_Hare_tell_133 ?_
      refine dk_iconst (v := 4) X (by decide) d_Hare_tell_135 ?_
      refine dk_iadd X d_Hare_tell_136 ?_
      refine dk_iald X (36 + 2 * jx5) (aC_row g ad T S1 jx5 hx5) d_Hare_tell_137 hF (fun v7 hF => ?_)
      refine dk_callVi X v_Hare_moment [.int v3, .int v4, .int v5, .int v6, .int v7] (c_Hare_moment l g ad T n v3 v4 v5 v6 v7 S1) 0 (oC_Hare g ad T S1) rfl rfl m_Hare_292 rfl rfl ⟨rfl, rfl, Nat.le_of_ble_eq_true rfl, Nat.le_of_ble_eq_true rfl, Nat.le_refl _, Nat.le_refl _⟩ (Nat.le_of_ble_eq_true rfl) d_Hare_tell_138 hF (fun r9 S8 hF => ?_)
      refine dk_if_lt (tgt := 147) X (by decide) d_Hare_tell_141 hF (fun hF => ?_) (fun hF => ?_)
      · exact dk_sub [2, 3, 4, 5, 6, 7] rfl (kb_Hare_tell_147 (n := n) X hR hk68 hx5 hF)
      · refine dk_iinc (i := 6) (v := (x6 + (1 : Int32))) (lv' := [(6, .int (x6 + (1 : Int32))), (9, .ref (ad (36 + 2 * jx5))), (8, .int (x3 + ((5 : Int32) * x7))), (0, .ref (ad 0)), (3, .int x3), (4, .int x4), (5, .ref (ad (35 + 2 * jx5))), (7, .int x7)]) X 6 rfl (dk_ii _ (by decide)) (by decide) rfl d_Hare_tell_144 ?_
        exact dk_sub [3, 4, 5, 6, 0, 7] rfl (kb_Hare_tell_147 (n := n) X hR hk68 hx5 hF)
    · refine dk_bipush (v := -12) X (by decide) d_Hare_tell_94 ?_
      exact dk_reti hR hF d_Hare_tell_96
def B_Hare_tell_68 (n T : Nat)  : Nat → Int32 → Int32 → Nat → Int32 → Int32 → dk_S → Option (Int32 × dk_S)
  | 0 => fun _ _ _ _ _ _ => none
  | q + 1 => fun x3 x4 jx5 x6 x7 S => B_Hare_tell_68b n T (fun x3 x4 jx5 x6 x7 S => B_Hare_tell_68 n T  q x3 x4 jx5 x6 x7 S) x3 x4 jx5 x6 x7 S
theorem kb_Hare_tell_68 {p : Program} {l : Launch} {e : Env} {s : State} {m : MethodId} {args : Array Value} {below : List Frame} {meth : Method} {c : Code} {g : dk_G} {A : Nat → Prop} {Q : State → Prop} {ad : Nat → Nat} {T : Nat} {n : Nat} {res : (Int32 × dk_S)} (X : dk_X p s m args meth c b_Hare_tell 10 R_Hare (some .int) g A) (hR : dk_Ri p l e rm_Hare_tell s m args below meth c g A Q 10 b_Hare_tell (some .int) (wC g ad T) res)  : ∀ (q : Nat) (x3 : Int32) (x4 : Int32) (jx5 : Nat) (x6 : Int32) (x7 : Int32) (hx5 : jx5 < 4) (S : dk_S), B_Hare_tell_68 n T  q x3 x4 jx5 x6 x7 S = some res → dk_J p l e rm_Hare_tell s m args below meth c g A Q 10 0 0 68 [(0, .ref (ad 0)), (3, .int x3), (4, .int x4), (5, .ref (ad (35 + 2 * jx5))), (6, .int x6), (7, .int x7)] [] (wC g ad T S) := by
  intro q
  induction q with
  | zero => intro x3 x4 jx5 x6 x7 hx5 S hF; cases hF
  | succ q ih => intro x3 x4 jx5 x6 x7 hx5 S hF; exact kb_Hare_tell_68b (n := n) X hR ih hx5 hF
def B_Hare_tell_0 (n T : Nat)  (x1 : Int32) (x2 : Int32) (x3 : Int32) (x4 : Int32) (S : dk_S) : Option (Int32 × dk_S) :=
  dk_c (F_Hare_isSheet n T x1 S) fun r11 S10 => if r11 = 0 then (some ((-2 : Int32), S10)) else (if x2 < 0 then (some ((-2 : Int32), S10)) else (if (3 : Int32) ≤ x2 then (some ((-2 : Int32), S10)) else (if x4 < 0 then (some ((-2 : Int32), S10)) else (if x4 ≤ (8 : Int32) then (dk_sh x1 fun j12 => dk_c (F_Sheet_isMissing n T j12 S10) fun r14 S13 => if r14 = 0 then (if (S13 (160 + j12) 0) = x2 then (B_Hare_tell_68 n T  n x3 x4 j12 (0 : Int32) (0 : Int32) S13) else (some ((-13 : Int32), S13))) else (some ((-11 : Int32), S13))) else (some ((-2 : Int32), S10))))))
set_option maxRecDepth 20000 in
theorem kb_Hare_tell_0 {p : Program} {l : Launch} {e : Env} {s : State} {m : MethodId} {args : Array Value} {below : List Frame} {meth : Method} {c : Code} {g : dk_G} {A : Nat → Prop} {Q : State → Prop} {ad : Nat → Nat} {T : Nat} {n : Nat} {res : (Int32 × dk_S)} (X : dk_X p s m args meth c b_Hare_tell 10 R_Hare (some .int) g A) (hR : dk_Ri p l e rm_Hare_tell s m args below meth c g A Q 10 b_Hare_tell (some .int) (wC g ad T) res)  {x1 : Int32} {x2 : Int32} {x3 : Int32} {x4 : Int32} {S : dk_S}  (hF : B_Hare_tell_0 n T  x1 x2 x3 x4 S = some res) : dk_J p l e rm_Hare_tell s m args below meth c g A Q 10 0 0 0 [(0, .ref (ad 0)), (1, .int x1), (2, .int x2), (3, .int x3), (4, .int x4)] [] (wC g ad T S) := by
  unfold B_Hare_tell_0 at hF
  refine dk_iload_n (k := 1) (i := 1) X 1 rfl rfl d_Hare_tell_0 ?_
  refine dk_callSi X v_Hare_isSheet [.int x1] (c_Hare_isSheet l g ad T n x1 S) m_Hare_218 rfl rfl ⟨rfl, rfl, Nat.le_of_ble_eq_true rfl, Nat.le_of_ble_eq_true rfl, Nat.le_refl _, Nat.le_refl _⟩ (Nat.le_of_ble_eq_true rfl) d_Hare_tell_1 hF (fun r11 S10 hF => ?_)
  refine dk_if_eq (tgt := 28) X (by decide) d_Hare_tell_4 hF (fun hF => ?_) (fun hF => ?_)
  · refine dk_bipush (v := -2) X (by decide) d_Hare_tell_28 ?_
    exact dk_reti hR hF d_Hare_tell_30
  · refine dk_iload_n (k := 2) (i := 2) X 2 rfl rfl d_Hare_tell_7 ?_
    refine dk_if_lt (tgt := 28) X (by decide) d_Hare_tell_8 hF (fun hF => ?_) (fun hF => ?_)
    · refine dk_bipush (v := -2) X (by decide) d_Hare_tell_28 ?_
      exact dk_reti hR hF d_Hare_tell_30
    · refine dk_iload_n (k := 2) (i := 2) X 2 rfl rfl d_Hare_tell_11 ?_
      refine dk_iconst (v := 3) X (by decide) d_Hare_tell_12 ?_
      refine dk_icmp_ge (tgt := 28) X (by decide) d_Hare_tell_13 hF (fun hF => ?_) (fun hF => ?_)
      · refine dk_bipush (v := -2) X (by decide) d_Hare_tell_28 ?_
        exact dk_reti hR hF d_Hare_tell_30
      · refine dk_iload (i := 4) X 4 rfl d_Hare_tell_16 ?_
        refine dk_if_lt (tgt := 28) X (by decide) d_Hare_tell_18 hF (fun hF => ?_) (fun hF => ?_)
        · refine dk_bipush (v := -2) X (by decide) d_Hare_tell_28 ?_
          exact dk_reti hR hF d_Hare_tell_30
        · refine dk_iload (i := 4) X 4 rfl d_Hare_tell_21 ?_
          refine dk_bipush (v := 8) X (by decide) d_Hare_tell_23 ?_
          refine dk_icmp_le (tgt := 31) X (by decide) d_Hare_tell_25 hF (fun hF => ?_) (fun hF => ?_)
          · refine dk_aload_n (k := 0) (i := 0) X 0 rfl rfl d_Hare_tell_31 ?_
            refine dk_get X q_Hare 0 6 (by decide) (oC_Hare g ad T S10) rfl f_Hare_66 d_Hare_tell_32 ?_
            refine dk_iload_n (k := 1) (i := 1) X 1 rfl rfl d_Hare_tell_35 ?_
            refine dk_shld X d_Hare_tell_36 hF (fun j12 hj12 hF => ?_)
            refine dk_astore (i := 5) (lv' := [(5, .ref (ad (35 + 2 * j12))), (0, .ref (ad 0)), (1, .int x1), (2, .int x2), (3, .int x3), (4, .int x4)]) X (by decide) rfl d_Hare_tell_37 ?_
            refine dk_aload (i := 5) X 0 rfl d_Hare_tell_39 ?_
            refine dk_callVi X v_Sheet_isMissing [] (c_Sheet_isMissing l g ad T n j12 hj12 S10) (35 + 2 * j12) (oC_Sheet g ad T S10 j12 hj12) rfl rfl m_Hare_221 rfl rfl ⟨rfl, rfl, Nat.le_of_ble_eq_true rfl, Nat.le_of_ble_eq_true rfl, Nat.le_refl _, Nat.le_refl _⟩ (Nat.le_of_ble_eq_true rfl) d_Hare_tell_41 hF (fun r14 S13 hF => ?_)
            refine dk_if_eq (tgt := 50) X (by decide) d_Hare_tell_44 hF (fun hF => ?_) (fun hF => ?_)
            · refine dk_aload (i := 5) X 0 rfl d_Hare_tell_50 ?_
              refine dk_get X q_Sheet (35 + 2 * j12) 1 (by decide) (oC_Sheet g ad T S13 j12 hj12) rfl f_Hare_279 d_Hare_tell_52 ?_
              refine dk_iload_n (k := 2) (i := 2) X 3 rfl rfl d_Hare_tell_55 ?_
              refine dk_icmp_eq (tgt := 62) X (by decide) d_Hare_tell_56 hF (fun hF => ?_) (fun hF => ?_)
              · refine dk_iconst (v := 0) X (by decide) d_Hare_tell_62 ?_
                refine dk_istore (i := 6) (lv' := [(6, .int (0 : Int32)), (5, .ref (ad (35 + 2 * j12))), (0, .ref (ad 0)), (1, .int x1), (2, .int x2), (3, .int x3), (4, .int x4)]) X (by decide) rfl d_Hare_tell_63 ?_
                refine dk_iconst (v := 0) X (by decide) d_Hare_tell_65 ?_
                refine dk_istore (i := 7) (lv' := [(7, .int (0 : Int32)), (6, .int (0 : Int32)), (5, .ref (ad (35 + 2 * j12))), (0, .ref (ad 0)), (1, .int x1), (2, .int x2), (3, .int x3), (4, .int x4)]) X (by decide) rfl d_Hare_tell_66 ?_
                exact dk_sub [3, 6, 7, 2, 1, 0] rfl (kb_Hare_tell_68 (n := n) X hR  n x3 x4 j12 (0 : Int32) (0 : Int32) hj12 S13 hF)
              · refine dk_bipush (v := -13) X (by decide) d_Hare_tell_59 ?_
                exact dk_reti hR hF d_Hare_tell_61
            · refine dk_bipush (v := -11) X (by decide) d_Hare_tell_47 ?_
              exact dk_reti hR hF d_Hare_tell_49
          · refine dk_bipush (v := -2) X (by decide) d_Hare_tell_28 ?_
            exact dk_reti hR hF d_Hare_tell_30
def F_Hare_tell (n T : Nat) (x1 : Int32) (x2 : Int32) (x3 : Int32) (x4 : Int32) (S : dk_S) : Option (Int32 × dk_S) := B_Hare_tell_0 n T x1 x2 x3 x4 S
theorem c_Hare_tell (l : Launch) (g : dk_G) (ad : Nat → Nat) (T n : Nat) (x1 : Int32) (x2 : Int32) (x3 : Int32) (x4 : Int32)  (S : dk_S) : dk_Mi l g y_Hare_tell b_Hare_tell 10 rm_Hare_tell (some .int) [.ref (ad 0), .int x1, .int x2, .int x3, .int x4] (wC g ad T) S (F_Hare_tell n T x1 x2 x3 x4 S) := dk_enteri (by decide) (Nat.le_of_ble_eq_true rfl) (fun p e s m args below meth c A Q res hF X hR => (kb_Hare_tell_0 (n := n) X hR  hF))
abbrev b_Hare_beastTaken : ByteArray := prog_1_method_34_code
def y_Hare_beastTaken : MethodName := ⟨R_Hare, "beastTaken", "(II)I"⟩
theorem d_Hare_beastTaken_0 : decode b_Hare_beastTaken 0 = .ok (.aload_n 0, 1) := by decide +kernel
theorem d_Hare_beastTaken_1 : decode b_Hare_beastTaken 1 = .ok (.getfield 10, 3) := by decide +kernel
theorem d_Hare_beastTaken_4 : decode b_Hare_beastTaken 4 = .ok (.iload_n 1, 1) := by decide +kernel
theorem d_Hare_beastTaken_5 : decode b_Hare_beastTaken 5 = .ok (.invokevirtual 97, 3) := by decide +kernel
theorem d_Hare_beastTaken_8 : decode b_Hare_beastTaken 8 = .ok (.ifCond .ne 6, 3) := by decide +kernel
theorem d_Hare_beastTaken_11 : decode b_Hare_beastTaken 11 = .ok (.bipush (-11), 2) := by decide +kernel
theorem d_Hare_beastTaken_13 : decode b_Hare_beastTaken 13 = .ok (.ireturn, 1) := by decide +kernel
theorem d_Hare_beastTaken_14 : decode b_Hare_beastTaken 14 = .ok (.iload_n 2, 1) := by decide +kernel
theorem d_Hare_beastTaken_15 : decode b_Hare_beastTaken 15 = .ok (.bipush 6, 2) := by decide +kernel
theorem d_Hare_beastTaken_17 : decode b_Hare_beastTaken 17 = .ok (.if_icmp .ne 15, 3) := by decide +kernel
theorem d_Hare_beastTaken_20 : decode b_Hare_beastTaken 20 = .ok (.aload_n 0, 1) := by decide +kernel
theorem d_Hare_beastTaken_21 : decode b_Hare_beastTaken 21 = .ok (.getfield 10, 3) := by decide +kernel
theorem d_Hare_beastTaken_24 : decode b_Hare_beastTaken 24 = .ok (.getfield 301, 3) := by decide +kernel
theorem d_Hare_beastTaken_27 : decode b_Hare_beastTaken 27 = .ok (.iload_n 1, 1) := by decide +kernel
theorem d_Hare_beastTaken_28 : decode b_Hare_beastTaken 28 = .ok (.iaload, 1) := by decide +kernel
theorem d_Hare_beastTaken_29 : decode b_Hare_beastTaken 29 = .ok (.goto 5, 3) := by decide +kernel
theorem d_Hare_beastTaken_32 : decode b_Hare_beastTaken 32 = .ok (.bipush (-13), 2) := by decide +kernel
theorem d_Hare_beastTaken_34 : decode b_Hare_beastTaken 34 = .ok (.ireturn, 1) := by decide +kernel
theorem v_Hare_beastTaken : dk_Yv y_Hare_beastTaken b_Hare_beastTaken 3 (some .int) 2 := ⟨dk_in (List.mem_of_getElem? (i := 928) (by decide +kernel)) rfl, dk_in (List.mem_of_getElem? (i := 30) (by decide +kernel)) rfl, dk_in (List.mem_of_getElem? (i := 66) (by decide +kernel)) rfl, dk_in (List.mem_of_getElem? (i := 929) (by decide +kernel)) rfl, by decide +kernel, by decide +kernel, by decide +kernel⟩
abbrev rm_Hare_beastTaken : Room := { frames := 1, cells := 0, slots := 0, locals := 21 }
theorem f_Hare_301 : Cond.fieldLink R_Hare 301 (T_Land 1).1 (T_Land 1).2.1 (T_Land 1).2.2.1 ∈ dk_tb := dk_in (List.mem_of_getElem? (i := 103) (by decide +kernel)) rfl
def B_Hare_beastTaken_0 (n T : Nat)  (x1 : Int32) (x2 : Int32) (S : dk_S) : Option (Int32 × dk_S) :=
  dk_c (F_Land_hasBeast n T x1 S) fun r2 S1 => if ¬ r2 = 0 then (if ¬ x2 = (6 : Int32) then (some ((-13 : Int32), S1)) else (dk_r 6 (S1 3) x1 fun v3 => some (v3, S1))) else (some ((-11 : Int32), S1))
set_option maxRecDepth 20000 in
theorem kb_Hare_beastTaken_0 {p : Program} {l : Launch} {e : Env} {s : State} {m : MethodId} {args : Array Value} {below : List Frame} {meth : Method} {c : Code} {g : dk_G} {A : Nat → Prop} {Q : State → Prop} {ad : Nat → Nat} {T : Nat} {n : Nat} {res : (Int32 × dk_S)} (X : dk_X p s m args meth c b_Hare_beastTaken 3 R_Hare (some .int) g A) (hR : dk_Ri p l e rm_Hare_beastTaken s m args below meth c g A Q 3 b_Hare_beastTaken (some .int) (wC g ad T) res)  {x1 : Int32} {x2 : Int32} {S : dk_S}  (hF : B_Hare_beastTaken_0 n T  x1 x2 S = some res) : dk_J p l e rm_Hare_beastTaken s m args below meth c g A Q 3 0 0 0 [(0, .ref (ad 0)), (1, .int x1), (2, .int x2)] [] (wC g ad T S) := by
  unfold B_Hare_beastTaken_0 at hF
  refine dk_aload_n (k := 0) (i := 0) X 0 rfl rfl d_Hare_beastTaken_0 ?_
  refine dk_get X q_Hare 0 0 (by decide) (oC_Hare g ad T S) rfl f_Hare_10 d_Hare_beastTaken_1 ?_
  refine dk_iload_n (k := 1) (i := 1) X 1 rfl rfl d_Hare_beastTaken_4 ?_
  refine dk_callVi X v_Land_hasBeast [.int x1] (c_Land_hasBeast l g ad T n x1 S) 1 (oC_Land g ad T S) rfl rfl m_Hare_97 rfl rfl ⟨rfl, rfl, Nat.le_of_ble_eq_true rfl, Nat.le_of_ble_eq_true rfl, Nat.le_refl _, Nat.le_refl _⟩ (Nat.le_of_ble_eq_true rfl) d_Hare_beastTaken_5 hF (fun r2 S1 hF => ?_)
  refine dk_if_ne (tgt := 14) X (by decide) d_Hare_beastTaken_8 hF (fun hF => ?_) (fun hF => ?_)
  · refine dk_iload_n (k := 2) (i := 2) X 2 rfl rfl d_Hare_beastTaken_14 ?_
    refine dk_bipush (v := 6) X (by decide) d_Hare_beastTaken_15 ?_
    refine dk_icmp_ne (tgt := 32) X (by decide) d_Hare_beastTaken_17 hF (fun hF => ?_) (fun hF => ?_)
    · refine dk_bipush (v := -13) X (by decide) d_Hare_beastTaken_32 ?_
      exact dk_reti hR hF d_Hare_beastTaken_34
    · refine dk_aload_n (k := 0) (i := 0) X 0 rfl rfl d_Hare_beastTaken_20 ?_
      refine dk_get X q_Hare 0 0 (by decide) (oC_Hare g ad T S1) rfl f_Hare_10 d_Hare_beastTaken_21 ?_
      refine dk_get X q_Land 1 1 (by decide) (oC_Land g ad T S1) rfl f_Hare_301 d_Hare_beastTaken_24 ?_
      refine dk_iload_n (k := 1) (i := 1) X 1 rfl rfl d_Hare_beastTaken_27 ?_
      refine dk_iald X 3 (aC_3 g ad T S1) d_Hare_beastTaken_28 hF (fun v3 hF => ?_)
      refine dk_goto (tgt := 34) X (by decide) d_Hare_beastTaken_29 ?_
      exact dk_reti hR hF d_Hare_beastTaken_34
  · refine dk_bipush (v := -11) X (by decide) d_Hare_beastTaken_11 ?_
    exact dk_reti hR hF d_Hare_beastTaken_13
def F_Hare_beastTaken (n T : Nat) (x1 : Int32) (x2 : Int32) (S : dk_S) : Option (Int32 × dk_S) := B_Hare_beastTaken_0 n T x1 x2 S
theorem c_Hare_beastTaken (l : Launch) (g : dk_G) (ad : Nat → Nat) (T n : Nat) (x1 : Int32) (x2 : Int32)  (S : dk_S) : dk_Mi l g y_Hare_beastTaken b_Hare_beastTaken 3 rm_Hare_beastTaken (some .int) [.ref (ad 0), .int x1, .int x2] (wC g ad T) S (F_Hare_beastTaken n T x1 x2 S) := dk_enteri (by decide) (Nat.le_of_ble_eq_true rfl) (fun p e s m args below meth c A Q res hF X hR => (kb_Hare_beastTaken_0 (n := n) X hR  hF))
abbrev b_Hare_kindAbove : ByteArray := prog_1_method_41_code
def y_Hare_kindAbove : MethodName := ⟨R_Hare, "kindAbove", "(I)I"⟩
theorem d_Hare_kindAbove_0 : decode b_Hare_kindAbove 0 = .ok (.iload_n 0, 1) := by decide +kernel
theorem d_Hare_kindAbove_1 : decode b_Hare_kindAbove 1 = .ok (.tableswitch 45 1 5 #[35, 37, 39, 41, 43], 35) := by decide +kernel
theorem d_Hare_kindAbove_36 : decode b_Hare_kindAbove 36 = .ok (.iconst 0, 1) := by decide +kernel
theorem d_Hare_kindAbove_37 : decode b_Hare_kindAbove 37 = .ok (.ireturn, 1) := by decide +kernel
theorem d_Hare_kindAbove_38 : decode b_Hare_kindAbove 38 = .ok (.iconst 1, 1) := by decide +kernel
theorem d_Hare_kindAbove_39 : decode b_Hare_kindAbove 39 = .ok (.ireturn, 1) := by decide +kernel
theorem d_Hare_kindAbove_40 : decode b_Hare_kindAbove 40 = .ok (.iconst 0, 1) := by decide +kernel
theorem d_Hare_kindAbove_41 : decode b_Hare_kindAbove 41 = .ok (.ireturn, 1) := by decide +kernel
theorem d_Hare_kindAbove_42 : decode b_Hare_kindAbove 42 = .ok (.iconst 0, 1) := by decide +kernel
theorem d_Hare_kindAbove_43 : decode b_Hare_kindAbove 43 = .ok (.ireturn, 1) := by decide +kernel
theorem d_Hare_kindAbove_44 : decode b_Hare_kindAbove 44 = .ok (.iconst 3, 1) := by decide +kernel
theorem d_Hare_kindAbove_45 : decode b_Hare_kindAbove 45 = .ok (.ireturn, 1) := by decide +kernel
theorem d_Hare_kindAbove_46 : decode b_Hare_kindAbove 46 = .ok (.iconst (-1), 1) := by decide +kernel
theorem d_Hare_kindAbove_47 : decode b_Hare_kindAbove 47 = .ok (.ireturn, 1) := by decide +kernel
theorem v_Hare_kindAbove : dk_Ys y_Hare_kindAbove b_Hare_kindAbove 1 (some .int) 1 := ⟨dk_in (List.mem_of_getElem? (i := 938) (by decide +kernel)) rfl, dk_in (List.mem_of_getElem? (i := 66) (by decide +kernel)) rfl, dk_in (List.mem_of_getElem? (i := 939) (by decide +kernel)) rfl, by decide +kernel, by decide +kernel, by decide +kernel⟩
abbrev rm_Hare_kindAbove : Room := { frames := 0, cells := 0, slots := 0, locals := 0 }
def B_Hare_kindAbove_0 (n T : Nat)  (x0 : Int32) (S : dk_S) : Option (Int32 × dk_S) :=
  if x0 = (1 : Int32) then (some ((0 : Int32), S)) else (if x0 = (2 : Int32) then (some ((1 : Int32), S)) else (if x0 = (3 : Int32) then (some ((0 : Int32), S)) else (if x0 = (4 : Int32) then (some ((0 : Int32), S)) else (if x0 = (5 : Int32) then (some ((3 : Int32), S)) else (some ((-1 : Int32), S))))))
set_option maxRecDepth 20000 in
theorem kb_Hare_kindAbove_0 {p : Program} {l : Launch} {e : Env} {s : State} {m : MethodId} {args : Array Value} {below : List Frame} {meth : Method} {c : Code} {g : dk_G} {A : Nat → Prop} {Q : State → Prop} {ad : Nat → Nat} {T : Nat} {n : Nat} {res : (Int32 × dk_S)} (X : dk_X p s m args meth c b_Hare_kindAbove 1 R_Hare (some .int) g A) (hR : dk_Ri p l e rm_Hare_kindAbove s m args below meth c g A Q 1 b_Hare_kindAbove (some .int) (wC g ad T) res)  {x0 : Int32} {S : dk_S}  (hF : B_Hare_kindAbove_0 n T  x0 S = some res) : dk_J p l e rm_Hare_kindAbove s m args below meth c g A Q 1 0 0 0 [(0, .int x0)] [] (wC g ad T S) := by
  unfold B_Hare_kindAbove_0 at hF
  refine dk_iload_n (k := 0) (i := 0) X 0 rfl rfl d_Hare_kindAbove_0 ?_
  refine dk_if hF (fun hc1 hF => ?_) (fun hc1 hF => ?_)
  · refine dk_tsIn (v := 1) (tgt := 36) X d_Hare_kindAbove_1 (by rw [hc1]; decide) (by decide) (by decide) rfl (by decide) ?_
    refine dk_iconst (v := 0) X (by decide) d_Hare_kindAbove_36 ?_
    exact dk_reti hR hF d_Hare_kindAbove_37
  · refine dk_if hF (fun hc2 hF => ?_) (fun hc2 hF => ?_)
    · refine dk_tsIn (v := 2) (tgt := 38) X d_Hare_kindAbove_1 (by rw [hc2]; decide) (by decide) (by decide) rfl (by decide) ?_
      refine dk_iconst (v := 1) X (by decide) d_Hare_kindAbove_38 ?_
      exact dk_reti hR hF d_Hare_kindAbove_39
    · refine dk_if hF (fun hc3 hF => ?_) (fun hc3 hF => ?_)
      · refine dk_tsIn (v := 3) (tgt := 40) X d_Hare_kindAbove_1 (by rw [hc3]; decide) (by decide) (by decide) rfl (by decide) ?_
        refine dk_iconst (v := 0) X (by decide) d_Hare_kindAbove_40 ?_
        exact dk_reti hR hF d_Hare_kindAbove_41
      · refine dk_if hF (fun hc4 hF => ?_) (fun hc4 hF => ?_)
        · refine dk_tsIn (v := 4) (tgt := 42) X d_Hare_kindAbove_1 (by rw [hc4]; decide) (by decide) (by decide) rfl (by decide) ?_
          refine dk_iconst (v := 0) X (by decide) d_Hare_kindAbove_42 ?_
          exact dk_reti hR hF d_Hare_kindAbove_43
        · refine dk_if hF (fun hc5 hF => ?_) (fun hc5 hF => ?_)
          · refine dk_tsIn (v := 5) (tgt := 44) X d_Hare_kindAbove_1 (by rw [hc5]; decide) (by decide) (by decide) rfl (by decide) ?_
            refine dk_iconst (v := 3) X (by decide) d_Hare_kindAbove_44 ?_
            exact dk_reti hR hF d_Hare_kindAbove_45
          · refine dk_tsOut (tgt := 46) X d_Hare_kindAbove_1 (by have e1 := lv_neT hc1 (a := 1) (by decide); have e2 := lv_neT hc2 (a := 2) (by decide); have e3 := lv_neT hc3 (a := 3) (by decide); have e4 := lv_neT hc4 (a := 4) (by decide); have e5 := lv_neT hc5 (a := 5) (by decide); omega) (by decide) ?_
            refine dk_iconst (v := -1) X (by decide) d_Hare_kindAbove_46 ?_
            exact dk_reti hR hF d_Hare_kindAbove_47
def F_Hare_kindAbove (n T : Nat) (x0 : Int32) (S : dk_S) : Option (Int32 × dk_S) := B_Hare_kindAbove_0 n T x0 S
theorem c_Hare_kindAbove (l : Launch) (g : dk_G) (ad : Nat → Nat) (T n : Nat) (x0 : Int32)  (S : dk_S) : dk_Mi l g y_Hare_kindAbove b_Hare_kindAbove 1 rm_Hare_kindAbove (some .int) [.int x0] (wC g ad T) S (F_Hare_kindAbove n T x0 S) := dk_enteri (by decide) (Nat.le_of_ble_eq_true rfl) (fun p e s m args below meth c A Q res hF X hR => (kb_Hare_kindAbove_0 (n := n) X hR  hF))
abbrev b_Hare_isOfKind : ByteArray := prog_1_method_40_code
def y_Hare_isOfKind : MethodName := ⟨R_Hare, "isOfKind", "(II)Z"⟩
theorem d_Hare_isOfKind_0 : decode b_Hare_isOfKind 0 = .ok (.iload_n 0, 1) := by decide +kernel
theorem d_Hare_isOfKind_1 : decode b_Hare_isOfKind 1 = .ok (.istore_n 2, 1) := by decide +kernel
theorem d_Hare_isOfKind_2 : decode b_Hare_isOfKind 2 = .ok (.iconst 0, 1) := by decide +kernel
theorem d_Hare_isOfKind_3 : decode b_Hare_isOfKind 3 = .ok (.istore_n 3, 1) := by decide +kernel
theorem d_Hare_isOfKind_4 : decode b_Hare_isOfKind 4 = .ok (.iload_n 3, 1) := by decide +kernel
theorem d_Hare_isOfKind_5 : decode b_Hare_isOfKind 5 = .ok (.iconst 3, 1) := by decide +kernel
theorem d_Hare_isOfKind_6 : decode b_Hare_isOfKind 6 = .ok (.if_icmp .ge 21, 3) := by decide +kernel
theorem d_Hare_isOfKind_9 : decode b_Hare_isOfKind 9 = .ok (.iload_n 2, 1) := by decide +kernel
theorem d_Hare_isOfKind_10 : decode b_Hare_isOfKind 10 = .ok (.iload_n 1, 1) := by decide +kernel
theorem d_Hare_isOfKind_11 : decode b_Hare_isOfKind 11 = .ok (.if_icmp .ne 5, 3) := by decide +kernel
theorem d_Hare_isOfKind_14 : decode b_Hare_isOfKind 14 = .ok (.iconst 1, 1) := by decide +kernel
theorem d_Hare_isOfKind_15 : decode b_Hare_isOfKind 15 = .ok (.ireturn, 1) := by decide +kernel
theorem d_Hare_isOfKind_16 : decode b_Hare_isOfKind 16 = .ok (.iload_n 2, 1) := by decide +kernel
theorem d_Hare_isOfKind_17 : decode b_Hare_isOfKind 17 = .ok (.invokestatic 311, 3) := by decide +kernel
theorem d_Hare_isOfKind_20 : decode b_Hare_isOfKind 20 = .ok (.istore_n 2, 1) := by decide +kernel
theorem d_Hare_isOfKind_21 : decode b_Hare_isOfKind 21 = .ok (.iinc 3 1, 3) := by decide +kernel
theorem d_Hare_isOfKind_24 : decode b_Hare_isOfKind 24 = .ok (.goto (-20), 3) := by decide +kernel
theorem d_Hare_isOfKind_27 : decode b_Hare_isOfKind 27 = .ok (.iconst 0, 1) := by decide +kernel
theorem d_Hare_isOfKind_28 : decode b_Hare_isOfKind 28 = .ok (.ireturn, 1) := by decide +kernel
theorem v_Hare_isOfKind : dk_Ys y_Hare_isOfKind b_Hare_isOfKind 4 (some .boolean) 2 := ⟨dk_in (List.mem_of_getElem? (i := 935) (by decide +kernel)) rfl, dk_in (List.mem_of_getElem? (i := 66) (by decide +kernel)) rfl, dk_in (List.mem_of_getElem? (i := 936) (by decide +kernel)) rfl, by decide +kernel, by decide +kernel, by decide +kernel⟩
abbrev rm_Hare_isOfKind : Room := { frames := 1, cells := 0, slots := 0, locals := 20 }
theorem m_Hare_311 : Cond.methodLink R_Hare 311 y_Hare_kindAbove ∈ dk_tb := dk_in (List.mem_of_getElem? (i := 937) (by decide +kernel)) rfl
def B_Hare_isOfKind_4b (n T : Nat) (k4 : Int32 → Int32 → Int32 → dk_S → Option (Int32 × dk_S)) (x1 : Int32) (x2 : Int32) (x3 : Int32) (S : dk_S) : Option (Int32 × dk_S) :=
  if (3 : Int32) ≤ x3 then (dk_b (0 : Int32) (some ((0 : Int32), S))) else (if ¬ x2 = x1 then (dk_c (F_Hare_kindAbove n T x2 S) fun r2 S1 => k4 x1 r2 (x3 + (1 : Int32)) S1) else (dk_b (1 : Int32) (some ((1 : Int32), S))))
set_option maxRecDepth 20000 in
theorem kb_Hare_isOfKind_4b {p : Program} {l : Launch} {e : Env} {s : State} {m : MethodId} {args : Array Value} {below : List Frame} {meth : Method} {c : Code} {g : dk_G} {A : Nat → Prop} {Q : State → Prop} {ad : Nat → Nat} {T : Nat} {n : Nat} {res : (Int32 × dk_S)} (X : dk_X p s m args meth c b_Hare_isOfKind 4 R_Hare (some .boolean) g A) (hR : dk_Ri p l e rm_Hare_isOfKind s m args below meth c g A Q 4 b_Hare_isOfKind (some .boolean) (wC g ad T) res) {k4 : Int32 → Int32 → Int32 → dk_S → Option (Int32 × dk_S)} (hk4 : ∀ (x1 : Int32) (x2 : Int32) (x3 : Int32)  (S : dk_S), k4 x1 x2 x3 S = some res → dk_J p l e rm_Hare_isOfKind s m args below meth c g A Q 4 0 0 4 [(1, .int x1), (2, .int x2), (3, .int x3)] [] (wC g ad T S)) {x1 : Int32} {x2 : Int32} {x3 : Int32} {S : dk_S}  (hF : B_Hare_isOfKind_4b n T k4 x1 x2 x3 S = some res) : dk_J p l e rm_Hare_isOfKind s m args below meth c g A Q 4 0 0 4 [(1, .int x1), (2, .int x2), (3, .int x3)] [] (wC g ad T S) := by
  unfold B_Hare_isOfKind_4b at hF
  refine dk_iload_n (k := 3) (i := 3) X 2 rfl rfl d_Hare_isOfKind_4 ?_
  refine dk_iconst (v := 3) X (by decide) d_Hare_isOfKind_5 ?_
  refine dk_icmp_ge (tgt := 27) X (by decide) d_Hare_isOfKind_6 hF (fun hF => ?_) (fun hF => ?_)
  · refine dk_iconst (v := 0) X (by decide) d_Hare_isOfKind_27 ?_
    exact dk_retz hR hF d_Hare_isOfKind_28
  · refine dk_iload_n (k := 2) (i := 2) X 1 rfl rfl d_Hare_isOfKind_9 ?_
    refine dk_iload_n (k := 1) (i := 1) X 0 rfl rfl d_Hare_isOfKind_10 ?_
    refine dk_icmp_ne (tgt := 16) X (by decide) d_Hare_isOfKind_11 hF (fun hF => ?_) (fun hF => ?_)
    · refine dk_iload_n (k := 2) (i := 2) X 1 rfl rfl d_Hare_isOfKind_16 ?_
      refine dk_callSi X v_Hare_kindAbove [.int x2] (c_Hare_kindAbove l g ad T n x2 S) m_Hare_311 rfl rfl ⟨rfl, rfl, Nat.le_of_ble_eq_true rfl, Nat.le_of_ble_eq_true rfl, Nat.le_refl _, Nat.le_refl _⟩ (Nat.le_of_ble_eq_true rfl) d_Hare_isOfKind_17 hF (fun r2 S1 hF => ?_)
      refine dk_istore_n (k := 2) (i := 2) (lv' := [(2, .int r2), (1, .int x1), (3, .int x3)]) X rfl (by decide) rfl d_Hare_isOfKind_20 ?_
      refine dk_iinc (i := 3) (v := (x3 + (1 : Int32))) (lv' := [(3, .int (x3 + (1 : Int32))), (2, .int r2), (1, .int x1)]) X 2 rfl (dk_ii _ (by decide)) (by decide) rfl d_Hare_isOfKind_21 ?_
      refine dk_goto (tgt := 4) X (by decide) d_Hare_isOfKind_24 ?_
      exact dk_sub [2, 1, 0] rfl (hk4 x1 r2 (x3 + (1 : Int32)) S1 hF)
    · refine dk_iconst (v := 1) X (by decide) d_Hare_isOfKind_14 ?_
      exact dk_retz hR hF d_Hare_isOfKind_15
def B_Hare_isOfKind_4 (n T : Nat)  : Nat → Int32 → Int32 → Int32 → dk_S → Option (Int32 × dk_S)
  | 0 => fun _ _ _ _ => none
  | q + 1 => fun x1 x2 x3 S => B_Hare_isOfKind_4b n T (fun x1 x2 x3 S => B_Hare_isOfKind_4 n T  q x1 x2 x3 S) x1 x2 x3 S
theorem kb_Hare_isOfKind_4 {p : Program} {l : Launch} {e : Env} {s : State} {m : MethodId} {args : Array Value} {below : List Frame} {meth : Method} {c : Code} {g : dk_G} {A : Nat → Prop} {Q : State → Prop} {ad : Nat → Nat} {T : Nat} {n : Nat} {res : (Int32 × dk_S)} (X : dk_X p s m args meth c b_Hare_isOfKind 4 R_Hare (some .boolean) g A) (hR : dk_Ri p l e rm_Hare_isOfKind s m args below meth c g A Q 4 b_Hare_isOfKind (some .boolean) (wC g ad T) res)  : ∀ (q : Nat) (x1 : Int32) (x2 : Int32) (x3 : Int32)  (S : dk_S), B_Hare_isOfKind_4 n T  q x1 x2 x3 S = some res → dk_J p l e rm_Hare_isOfKind s m args below meth c g A Q 4 0 0 4 [(1, .int x1), (2, .int x2), (3, .int x3)] [] (wC g ad T S) := by
  intro q
  induction q with
  | zero => intro x1 x2 x3  S hF; cases hF
  | succ q ih => intro x1 x2 x3  S hF; exact kb_Hare_isOfKind_4b (n := n) X hR ih  hF
def B_Hare_isOfKind_0 (n T : Nat)  (x0 : Int32) (x1 : Int32) (S : dk_S) : Option (Int32 × dk_S) :=
  B_Hare_isOfKind_4 n T  n x1 x0 (0 : Int32) S
set_option maxRecDepth 20000 in
theorem kb_Hare_isOfKind_0 {p : Program} {l : Launch} {e : Env} {s : State} {m : MethodId} {args : Array Value} {below : List Frame} {meth : Method} {c : Code} {g : dk_G} {A : Nat → Prop} {Q : State → Prop} {ad : Nat → Nat} {T : Nat} {n : Nat} {res : (Int32 × dk_S)} (X : dk_X p s m args meth c b_Hare_isOfKind 4 R_Hare (some .boolean) g A) (hR : dk_Ri p l e rm_Hare_isOfKind s m args below meth c g A Q 4 b_Hare_isOfKind (some .boolean) (wC g ad T) res)  {x0 : Int32} {x1 : Int32} {S : dk_S}  (hF : B_Hare_isOfKind_0 n T  x0 x1 S = some res) : dk_J p l e rm_Hare_isOfKind s m args below meth c g A Q 4 0 0 0 [(0, .int x0), (1, .int x1)] [] (wC g ad T S) := by
  unfold B_Hare_isOfKind_0 at hF
  refine dk_iload_n (k := 0) (i := 0) X 0 rfl rfl d_Hare_isOfKind_0 ?_
  refine dk_istore_n (k := 2) (i := 2) (lv' := [(2, .int x0), (0, .int x0), (1, .int x1)]) X rfl (by decide) rfl d_Hare_isOfKind_1 ?_
  refine dk_iconst (v := 0) X (by decide) d_Hare_isOfKind_2 ?_
  refine dk_istore_n (k := 3) (i := 3) (lv' := [(3, .int (0 : Int32)), (2, .int x0), (0, .int x0), (1, .int x1)]) X rfl (by decide) rfl d_Hare_isOfKind_3 ?_
  exact dk_sub [3, 1, 0] rfl (kb_Hare_isOfKind_4 (n := n) X hR  n x1 x0 (0 : Int32) S hF)
def F_Hare_isOfKind (n T : Nat) (x0 : Int32) (x1 : Int32) (S : dk_S) : Option (Int32 × dk_S) := B_Hare_isOfKind_0 n T x0 x1 S
theorem c_Hare_isOfKind (l : Launch) (g : dk_G) (ad : Nat → Nat) (T n : Nat) (x0 : Int32) (x1 : Int32)  (S : dk_S) : dk_Mi l g y_Hare_isOfKind b_Hare_isOfKind 4 rm_Hare_isOfKind (some .boolean) [.int x0, .int x1] (wC g ad T) S (F_Hare_isOfKind n T x0 x1 S) := dk_enteri (by decide) (Nat.le_of_ble_eq_true rfl) (fun p e s m args below meth c A Q res hF X hR => (kb_Hare_isOfKind_0 (n := n) X hR  hF))
