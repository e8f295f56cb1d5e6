def dk_tx {β : Type} (T : Nat) (i : Int32) (k : Nat → Option β) : Option β := if i < 0 ∨ 6 ≤ i.toNatClampNeg ∨ T ≤ i.toNatClampNeg then none else k i.toNatClampNeg
theorem dk_tx_out {β : Type} {T : Nat} {i : Int32} {k : Nat → Option β} {res : β} (h : dk_tx T i k = some res) : (vp_in i 6 ∧ i.toNatClampNeg < T) ∧ k i.toNatClampNeg = some res := by
  unfold dk_tx at h; split at h
  · cases h
  · rename_i q
    simp only [not_or, Nat.not_le] at q
    exact ⟨⟨fun z => z.elim q.1 (fun z => Nat.not_le.mpr q.2.1 z), q.2.2⟩, h⟩
theorem sC_Scales_text (g : dk_G) (ad : Nat → Nat) (T : Nat) (S : dk_S) (t : Nat) (h6 : t < 6) : (wC g ad T S).set 15 (ad 15, .inr (3, ([.ref (ad 16), .ref (ad 17), .ref (ad (43 + 3 * (S 114 0).toNatClampNeg))] : List Value).set 2 (.ref (ad (43 + 3 * t))))) = wC g ad T (dk_U S 114 0 (nI t)) := by
  have e : (dk_U S 114 0 (nI t) 114 0).toNatClampNeg = t := by
    show (nI t).toNatClampNeg = t
    exact nI_clamp (by omega)
  refine wC_set (by decide) (by decide) ?_
  unfold wC0
  rw [e]
  rfl
section DK6
variable {p : Program} {l : Launch} {e : Env} {R : Room} {s : State} {m : MethodId} {args : Array Value} {below : List Frame} {meth : Method} {c : Code} {g : dk_G} {A : Nat → Prop} {Q : State → Prop} {nL cells slots pc : Nat} {lv : List (Nat × Value)} {st : List Value} {ws : va_W} {cc : ByteArray} {own : String} {ret : Option FieldType}
theorem dk_txld {β : Type} {res : β} {K : Nat → Option β} {ad : Nat → Nat} {T : Nat} {S : dk_S} (X : dk_X p s m args meth c cc nL own ret g A) {i : Int32} (hdg : decode cc pc = .ok (.aaload, 1)) (hF : dk_tx T i K = some res)
    (kk : ∀ t : Nat, t < T → t < 6 → K t = some res → dk_J p l e R s m args below meth c g A Q nL cells slots (pc + 1) lv (.ref (ad (43 + 3 * t)) :: st) (wC g ad T S)) : dk_J p l e R s m args below meth c g A Q nL cells slots pc lv (.int i :: .ref (ad 30) :: st) (wC g ad T S) := by
  obtain ⟨⟨h1, h2⟩, hF⟩ := dk_tx_out hF
  have hj : i.toNatClampNeg < 6 := Nat.not_le.mp fun q => h1 (Or.inr q)
  intro H locs ls hP hD hS hl
  refine va_aldq X.1 X.2.1 X.2.2.2.2.2.1 hP 30 4 (aC_30 g ad T S) rfl h1 hdg ?_
  show W p l e R s m args below meth c H locs cells slots Q (F0 m (pc + 1) ls (va_rf (if i.toNatClampNeg < T then some (ad (43 + 3 * i.toNatClampNeg)) else none) :: st))
  rw [if_pos h2]
  exact kk _ h2 hj hF H locs ls hP hD hS hl
theorem dk_ifnull (X : dk_X p s m args meth c cc nL own ret g A) {x : Nat} {off : Int} (hdg : decode cc pc = .ok (.ifnull off, 3)) (kk : dk_J p l e R s m args below meth c g A Q nL cells slots (pc + 3) lv st ws) : dk_J p l e R s m args below meth c g A Q nL cells slots pc lv (.ref x :: st) ws := fun H locs ls hP hD hS hl =>
  lv_ifnull X.1 X.2.1 hdg (kk H locs ls hP hD hS hl)
theorem dk_puttx {β : Type} {res : β} {wd : dk_S → va_W} {S : dk_S} {K : dk_S → Option β} (X : dk_X p s m args meth c cc nL own ret g A) {a b index : Nat} {x : Int32} {fs : List Value} (he : (wd S)[15]? = some (a, .inr (3, fs))) (hlk : Cond.fieldLink own index (T_Scales 2).1 (T_Scales 2).2.1 (T_Scales 2).2.2.1 ∈ dk_tb) (hset : (wd S).set 15 (a, .inr (3, fs.set 2 (.ref b))) = wd (dk_U S 114 0 x)) (hdg : decode cc pc = .ok (.putfield index, 3)) (hF : dk_p S 114 x K = some res) (hlen : 2 < fs.length)
    (kk : ∀ S' : dk_S, K S' = some res → dk_J p l e R s m args below meth c g A Q nL cells slots (pc + 3) lv st (wd S')) : dk_J p l e R s m args below meth c g A Q nL cells slots pc lv (.ref b :: .ref a :: st) (wd S) :=
  dk_put X q_Scales 15 2 (by decide) he hlk rfl rfl rfl rfl hlen hset hdg (kk _ hF)
end DK6

abbrev b_Hare_isOne : ByteArray := prog_1_method_37_code
def y_Hare_isOne : MethodName := ⟨R_Hare, "isOne", "(I)Z"⟩
theorem d_Hare_isOne_0 : decode b_Hare_isOne 0 = .ok (.iload_n 0, 1) := by decide +kernel
theorem d_Hare_isOne_1 : decode b_Hare_isOne 1 = .ok (.ifCond .lt 13, 3) := by decide +kernel
theorem d_Hare_isOne_4 : decode b_Hare_isOne 4 = .ok (.iload_n 0, 1) := by decide +kernel
theorem d_Hare_isOne_5 : decode b_Hare_isOne 5 = .ok (.bipush 10, 2) := by decide +kernel
theorem d_Hare_isOne_7 : decode b_Hare_isOne 7 = .ok (.if_icmp .ge 7, 3) := by decide +kernel
theorem d_Hare_isOne_10 : decode b_Hare_isOne 10 = .ok (.iconst 1, 1) := by decide +kernel
theorem d_Hare_isOne_11 : decode b_Hare_isOne 11 = .ok (.goto 4, 3) := by decide +kernel
theorem d_Hare_isOne_14 : decode b_Hare_isOne 14 = .ok (.iconst 0, 1) := by decide +kernel
theorem d_Hare_isOne_15 : decode b_Hare_isOne 15 = .ok (.ireturn, 1) := by decide +kernel
theorem v_Hare_isOne : dk_Ys y_Hare_isOne b_Hare_isOne 1 (some .boolean) 1 := ⟨dk_in (List.mem_of_getElem? (i := 411) (by decide +kernel)) rfl, dk_in (List.mem_of_getElem? (i := 66) (by decide +kernel)) rfl, dk_in (List.mem_of_getElem? (i := 412) (by decide +kernel)) rfl, by decide +kernel, by decide +kernel, by decide +kernel⟩
abbrev rm_Hare_isOne : Room := { frames := 0, cells := 0, slots := 0, locals := 0 }
def B_Hare_isOne_0 (n T : Nat)  (x0 : Int32) (S : dk_S) : Option (Int32 × dk_S) :=
  if x0 < 0 then (dk_b (0 : Int32) (some ((0 : Int32), S))) else (if (10 : Int32) ≤ x0 then (dk_b (0 : Int32) (some ((0 : Int32), S))) else (dk_b (1 : Int32) (some ((1 : Int32), S))))
set_option maxRecDepth 20000 in
theorem kb_Hare_isOne_0 {p : Program} {l : Launch} {e : Env} {s : State} {m : MethodId} {args : Array Value} {below : List Frame} {meth : Method} {c : Code} {g : dk_G} {A : Nat → Prop} {Q : State → Prop} {ad : Nat → Nat} {T : Nat} {n : Nat} {res : (Int32 × dk_S)} (X : dk_X p s m args meth c b_Hare_isOne 1 R_Hare (some .boolean) g A) (hR : dk_Ri p l e rm_Hare_isOne s m args below meth c g A Q 1 b_Hare_isOne (some .boolean) (wC g ad T) res)  {x0 : Int32} {S : dk_S}  (hF : B_Hare_isOne_0 n T  x0 S = some res) : dk_J p l e rm_Hare_isOne s m args below meth c g A Q 1 0 0 0 [(0, .int x0)] [] (wC g ad T S) := by
  unfold B_Hare_isOne_0 at hF
  refine dk_iload_n (k := 0) (i := 0) X 0 rfl rfl d_Hare_isOne_0 ?_
  refine dk_if_lt (tgt := 14) X (by decide) d_Hare_isOne_1 hF (fun hF => ?_) (fun hF => ?_)
  · refine dk_iconst (v := 0) X (by decide) d_Hare_isOne_14 ?_
    exact dk_retz hR hF d_Hare_isOne_15
  · refine dk_iload_n (k := 0) (i := 0) X 0 rfl rfl d_Hare_isOne_4 ?_
    refine dk_bipush (v := 10) X (by decide) d_Hare_isOne_5 ?_
    refine dk_icmp_ge (tgt := 14) X (by decide) d_Hare_isOne_7 hF (fun hF => ?_) (fun hF => ?_)
    · refine dk_iconst (v := 0) X (by decide) d_Hare_isOne_14 ?_
      exact dk_retz hR hF d_Hare_isOne_15
    · refine dk_iconst (v := 1) X (by decide) d_Hare_isOne_10 ?_
      refine dk_goto (tgt := 15) X (by decide) d_Hare_isOne_11 ?_
      exact dk_retz hR hF d_Hare_isOne_15
def F_Hare_isOne (n T : Nat) (x0 : Int32) (S : dk_S) : Option (Int32 × dk_S) := B_Hare_isOne_0 n T x0 S
theorem c_Hare_isOne (l : Launch) (g : dk_G) (ad : Nat → Nat) (T n : Nat) (x0 : Int32)  (S : dk_S) : dk_Mi l g y_Hare_isOne b_Hare_isOne 1 rm_Hare_isOne (some .boolean) [.int x0] (wC g ad T) S (F_Hare_isOne n T x0 S) := dk_enteri (by decide) (Nat.le_of_ble_eq_true rfl) (fun p e s m args below meth c A Q res hF X hR => (kb_Hare_isOne_0 (n := n) X hR  hF))
abbrev b_Hare_isOneOrNobody : ByteArray := prog_1_method_38_code
def y_Hare_isOneOrNobody : MethodName := ⟨R_Hare, "isOneOrNobody", "(I)Z"⟩
theorem d_Hare_isOneOrNobody_0 : decode b_Hare_isOneOrNobody 0 = .ok (.iload_n 0, 1) := by decide +kernel
theorem d_Hare_isOneOrNobody_1 : decode b_Hare_isOneOrNobody 1 = .ok (.iconst (-1), 1) := by decide +kernel
theorem d_Hare_isOneOrNobody_2 : decode b_Hare_isOneOrNobody 2 = .ok (.if_icmp .eq 10, 3) := by decide +kernel
theorem d_Hare_isOneOrNobody_5 : decode b_Hare_isOneOrNobody 5 = .ok (.iload_n 0, 1) := by decide +kernel
theorem d_Hare_isOneOrNobody_6 : decode b_Hare_isOneOrNobody 6 = .ok (.invokestatic 104, 3) := by decide +kernel
theorem d_Hare_isOneOrNobody_9 : decode b_Hare_isOneOrNobody 9 = .ok (.ifCond .eq 7, 3) := by decide +kernel
theorem d_Hare_isOneOrNobody_12 : decode b_Hare_isOneOrNobody 12 = .ok (.iconst 1, 1) := by decide +kernel
theorem d_Hare_isOneOrNobody_13 : decode b_Hare_isOneOrNobody 13 = .ok (.goto 4, 3) := by decide +kernel
theorem d_Hare_isOneOrNobody_16 : decode b_Hare_isOneOrNobody 16 = .ok (.iconst 0, 1) := by decide +kernel
theorem d_Hare_isOneOrNobody_17 : decode b_Hare_isOneOrNobody 17 = .ok (.ireturn, 1) := by decide +kernel
theorem v_Hare_isOneOrNobody : dk_Ys y_Hare_isOneOrNobody b_Hare_isOneOrNobody 1 (some .boolean) 1 := ⟨dk_in (List.mem_of_getElem? (i := 408) (by decide +kernel)) rfl, dk_in (List.mem_of_getElem? (i := 66) (by decide +kernel)) rfl, dk_in (List.mem_of_getElem? (i := 409) (by decide +kernel)) rfl, by decide +kernel, by decide +kernel, by decide +kernel⟩
abbrev rm_Hare_isOneOrNobody : Room := { frames := 1, cells := 0, slots := 0, locals := 20 }
theorem m_Hare_104 : Cond.methodLink R_Hare 104 y_Hare_isOne ∈ dk_tb := dk_in (List.mem_of_getElem? (i := 410) (by decide +kernel)) rfl
def B_Hare_isOneOrNobody_0 (n T : Nat)  (x0 : Int32) (S : dk_S) : Option (Int32 × dk_S) :=
  if x0 = (-1 : Int32) then (dk_b (1 : Int32) (some ((1 : Int32), S))) else (dk_c (F_Hare_isOne n T x0 S) fun r2 S1 => if r2 = 0 then (dk_b (0 : Int32) (some ((0 : Int32), S1))) else (dk_b (1 : Int32) (some ((1 : Int32), S1))))
set_option maxRecDepth 20000 in
theorem kb_Hare_isOneOrNobody_0 {p : Program} {l : Launch} {e : Env} {s : State} {m : MethodId} {args : Array Value} {below : List Frame} {meth : Method} {c : Code} {g : dk_G} {A : Nat → Prop} {Q : State → Prop} {ad : Nat → Nat} {T : Nat} {n : Nat} {res : (Int32 × dk_S)} (X : dk_X p s m args meth c b_Hare_isOneOrNobody 1 R_Hare (some .boolean) g A) (hR : dk_Ri p l e rm_Hare_isOneOrNobody s m args below meth c g A Q 1 b_Hare_isOneOrNobody (some .boolean) (wC g ad T) res)  {x0 : Int32} {S : dk_S}  (hF : B_Hare_isOneOrNobody_0 n T  x0 S = some res) : dk_J p l e rm_Hare_isOneOrNobody s m args below meth c g A Q 1 0 0 0 [(0, .int x0)] [] (wC g ad T S) := by
  unfold B_Hare_isOneOrNobody_0 at hF
  refine dk_iload_n (k := 0) (i := 0) X 0 rfl rfl d_Hare_isOneOrNobody_0 ?_
  refine dk_iconst (v := -1) X (by decide) d_Hare_isOneOrNobody_1 ?_
  refine dk_icmp_eq (tgt := 12) X (by decide) d_Hare_isOneOrNobody_2 hF (fun hF => ?_) (fun hF => ?_)
  · refine dk_iconst (v := 1) X (by decide) d_Hare_isOneOrNobody_12 ?_
    refine dk_goto (tgt := 17) X (by decide) d_Hare_isOneOrNobody_13 ?_
    exact dk_retz hR hF d_Hare_isOneOrNobody_17
  · refine dk_iload_n (k := 0) (i := 0) X 0 rfl rfl d_Hare_isOneOrNobody_5 ?_
    refine dk_callSi X v_Hare_isOne [.int x0] (c_Hare_isOne l g ad T n x0 S) m_Hare_104 rfl rfl ⟨rfl, rfl, Nat.le_of_ble_eq_true rfl, Nat.le_of_ble_eq_true rfl, Nat.le_refl _, Nat.le_refl _⟩ (Nat.le_of_ble_eq_true rfl) d_Hare_isOneOrNobody_6 hF (fun r2 S1 hF => ?_)
    refine dk_if_eq (tgt := 16) X (by decide) d_Hare_isOneOrNobody_9 hF (fun hF => ?_) (fun hF => ?_)
    · refine dk_iconst (v := 0) X (by decide) d_Hare_isOneOrNobody_16 ?_
      exact dk_retz hR hF d_Hare_isOneOrNobody_17
    · refine dk_iconst (v := 1) X (by decide) d_Hare_isOneOrNobody_12 ?_
      refine dk_goto (tgt := 17) X (by decide) d_Hare_isOneOrNobody_13 ?_
      exact dk_retz hR hF d_Hare_isOneOrNobody_17
def F_Hare_isOneOrNobody (n T : Nat) (x0 : Int32) (S : dk_S) : Option (Int32 × dk_S) := B_Hare_isOneOrNobody_0 n T x0 S
theorem c_Hare_isOneOrNobody (l : Launch) (g : dk_G) (ad : Nat → Nat) (T n : Nat) (x0 : Int32)  (S : dk_S) : dk_Mi l g y_Hare_isOneOrNobody b_Hare_isOneOrNobody 1 rm_Hare_isOneOrNobody (some .boolean) [.int x0] (wC g ad T) S (F_Hare_isOneOrNobody n T x0 S) := dk_enteri (by decide) (Nat.le_of_ble_eq_true rfl) (fun p e s m args below meth c A Q res hF X hR => (kb_Hare_isOneOrNobody_0 (n := n) X hR  hF))
abbrev b_Hare_ground : ByteArray := prog_1_method_2_code
def y_Hare_ground : MethodName := ⟨R_Hare, "ground", "(I)I"⟩
theorem d_Hare_ground_0 : decode b_Hare_ground 0 = .ok (.iload_n 1, 1) := by decide +kernel
theorem d_Hare_ground_1 : decode b_Hare_ground 1 = .ok (.invokestatic 78, 3) := by decide +kernel
theorem d_Hare_ground_4 : decode b_Hare_ground 4 = .ok (.ifCond .ne 6, 3) := by decide +kernel
theorem d_Hare_ground_7 : decode b_Hare_ground 7 = .ok (.bipush (-2), 2) := by decide +kernel
theorem d_Hare_ground_9 : decode b_Hare_ground 9 = .ok (.ireturn, 1) := by decide +kernel
theorem d_Hare_ground_10 : decode b_Hare_ground 10 = .ok (.aload_n 0, 1) := by decide +kernel
theorem d_Hare_ground_11 : decode b_Hare_ground 11 = .ok (.getfield 10, 3) := by decide +kernel
theorem d_Hare_ground_14 : decode b_Hare_ground 14 = .ok (.iload_n 1, 1) := by decide +kernel
theorem d_Hare_ground_15 : decode b_Hare_ground 15 = .ok (.invokevirtual 82, 3) := by decide +kernel
theorem d_Hare_ground_18 : decode b_Hare_ground 18 = .ok (.ireturn, 1) := by decide +kernel
theorem v_Hare_ground : dk_Yv y_Hare_ground b_Hare_ground 2 (some .int) 1 := ⟨dk_in (List.mem_of_getElem? (i := 404) (by decide +kernel)) rfl, dk_in (List.mem_of_getElem? (i := 405) (by decide +kernel)) rfl, dk_in (List.mem_of_getElem? (i := 66) (by decide +kernel)) rfl, dk_in (List.mem_of_getElem? (i := 406) (by decide +kernel)) rfl, by decide +kernel, by decide +kernel, by decide +kernel⟩
abbrev rm_Hare_ground : Room := { frames := 2, cells := 0, slots := 0, locals := 40 }
theorem f_Hare_10 : Cond.fieldLink R_Hare 10 (T_Hare 0).1 (T_Hare 0).2.1 (T_Hare 0).2.2.1 ∈ dk_tb := dk_in (List.mem_of_getElem? (i := 372) (by decide +kernel)) rfl
theorem m_Hare_78 : Cond.methodLink R_Hare 78 y_Hare_isOneOrNobody ∈ dk_tb := dk_in (List.mem_of_getElem? (i := 407) (by decide +kernel)) rfl
theorem m_Hare_82 : Cond.methodLink R_Hare 82 y_Land_addGround ∈ dk_tb := dk_in (List.mem_of_getElem? (i := 413) (by decide +kernel)) rfl
def B_Hare_ground_0 (n T : Nat)  (x1 : Int32) (S : dk_S) : Option (Int32 × dk_S) :=
  dk_c (F_Hare_isOneOrNobody n T x1 S) fun r2 S1 => if ¬ r2 = 0 then (dk_c (F_Land_addGround n T x1 S1) fun r4 S3 => some (r4, S3)) else (some ((-2 : Int32), S1))
set_option maxRecDepth 20000 in
theorem kb_Hare_ground_0 {p : Program} {l : Launch} {e : Env} {s : State} {m : MethodId} {args : Array Value} {below : List Frame} {meth : Method} {c : Code} {g : dk_G} {A : Nat → Prop} {Q : State → Prop} {ad : Nat → Nat} {T : Nat} {n : Nat} {res : (Int32 × dk_S)} (X : dk_X p s m args meth c b_Hare_ground 2 R_Hare (some .int) g A) (hR : dk_Ri p l e rm_Hare_ground s m args below meth c g A Q 2 b_Hare_ground (some .int) (wC g ad T) res)  {x1 : Int32} {S : dk_S}  (hF : B_Hare_ground_0 n T  x1 S = some res) : dk_J p l e rm_Hare_ground s m args below meth c g A Q 2 0 0 0 [(0, .ref (ad 0)), (1, .int x1)] [] (wC g ad T S) := by
  unfold B_Hare_ground_0 at hF
  refine dk_iload_n (k := 1) (i := 1) X 1 rfl rfl d_Hare_ground_0 ?_
  refine dk_callSi X v_Hare_isOneOrNobody [.int x1] (c_Hare_isOneOrNobody l g ad T n x1 S) m_Hare_78 rfl rfl ⟨rfl, rfl, Nat.le_of_ble_eq_true rfl, Nat.le_of_ble_eq_true rfl, Nat.le_refl _, Nat.le_refl _⟩ (Nat.le_of_ble_eq_true rfl) d_Hare_ground_1 hF (fun r2 S1 hF => ?_)
  refine dk_if_ne (tgt := 10) X (by decide) d_Hare_ground_4 hF (fun hF => ?_) (fun hF => ?_)
  · refine dk_aload_n (k := 0) (i := 0) X 0 rfl rfl d_Hare_ground_10 ?_
    refine dk_get X q_Hare 0 0 (by decide) (oC_Hare g ad T S1) rfl f_Hare_10 d_Hare_ground_11 ?_
    refine dk_iload_n (k := 1) (i := 1) X 1 rfl rfl d_Hare_ground_14 ?_
    refine dk_callVi X v_Land_addGround [.int x1] (c_Land_addGround l g ad T n x1 S1) 1 (oC_Land g ad T S1) rfl rfl m_Hare_82 rfl rfl ⟨rfl, rfl, Nat.le_of_ble_eq_true rfl, Nat.le_of_ble_eq_true rfl, Nat.le_refl _, Nat.le_refl _⟩ (Nat.le_of_ble_eq_true rfl) d_Hare_ground_15 hF (fun r4 S3 hF => ?_)
    exact dk_reti hR hF d_Hare_ground_18
  · refine dk_bipush (v := -2) X (by decide) d_Hare_ground_7 ?_
    exact dk_reti hR hF d_Hare_ground_9
def F_Hare_ground (n T : Nat) (x1 : Int32) (S : dk_S) : Option (Int32 × dk_S) := B_Hare_ground_0 n T x1 S
theorem c_Hare_ground (l : Launch) (g : dk_G) (ad : Nat → Nat) (T n : Nat) (x1 : Int32)  (S : dk_S) : dk_Mi l g y_Hare_ground b_Hare_ground 2 rm_Hare_ground (some .int) [.ref (ad 0), .int x1] (wC g ad T) S (F_Hare_ground n T x1 S) := dk_enteri (by decide) (Nat.le_of_ble_eq_true rfl) (fun p e s m args below meth c A Q res hF X hR => (kb_Hare_ground_0 (n := n) X hR  hF))
abbrev b_Hare_owns : ByteArray := prog_1_method_3_code
def y_Hare_owns : MethodName := ⟨R_Hare, "owns", "(II)I"⟩
theorem d_Hare_owns_0 : decode b_Hare_owns 0 = .ok (.aload_n 0, 1) := by decide +kernel
theorem d_Hare_owns_1 : decode b_Hare_owns 1 = .ok (.getfield 10, 3) := by decide +kernel
theorem d_Hare_owns_4 : decode b_Hare_owns 4 = .ok (.iload_n 1, 1) := by decide +kernel
theorem d_Hare_owns_5 : decode b_Hare_owns 5 = .ok (.invokevirtual 86, 3) := by decide +kernel
theorem d_Hare_owns_8 : decode b_Hare_owns 8 = .ok (.ifCond .ne 6, 3) := by decide +kernel
theorem d_Hare_owns_11 : decode b_Hare_owns 11 = .ok (.bipush (-5), 2) := by decide +kernel
theorem d_Hare_owns_13 : decode b_Hare_owns 13 = .ok (.ireturn, 1) := by decide +kernel
theorem d_Hare_owns_14 : decode b_Hare_owns 14 = .ok (.iload_n 2, 1) := by decide +kernel
theorem d_Hare_owns_15 : decode b_Hare_owns 15 = .ok (.invokestatic 78, 3) := by decide +kernel
theorem d_Hare_owns_18 : decode b_Hare_owns 18 = .ok (.ifCond .ne 6, 3) := by decide +kernel
theorem d_Hare_owns_21 : decode b_Hare_owns 21 = .ok (.bipush (-7), 2) := by decide +kernel
theorem d_Hare_owns_23 : decode b_Hare_owns 23 = .ok (.ireturn, 1) := by decide +kernel
theorem d_Hare_owns_24 : decode b_Hare_owns 24 = .ok (.aload_n 0, 1) := by decide +kernel
theorem d_Hare_owns_25 : decode b_Hare_owns 25 = .ok (.getfield 10, 3) := by decide +kernel
theorem d_Hare_owns_28 : decode b_Hare_owns 28 = .ok (.getfield 89, 3) := by decide +kernel
theorem d_Hare_owns_31 : decode b_Hare_owns 31 = .ok (.iload_n 1, 1) := by decide +kernel
theorem d_Hare_owns_32 : decode b_Hare_owns 32 = .ok (.iaload, 1) := by decide +kernel
theorem d_Hare_owns_33 : decode b_Hare_owns 33 = .ok (.istore_n 3, 1) := by decide +kernel
theorem d_Hare_owns_34 : decode b_Hare_owns 34 = .ok (.aload_n 0, 1) := by decide +kernel
theorem d_Hare_owns_35 : decode b_Hare_owns 35 = .ok (.getfield 10, 3) := by decide +kernel
theorem d_Hare_owns_38 : decode b_Hare_owns 38 = .ok (.getfield 89, 3) := by decide +kernel
theorem d_Hare_owns_41 : decode b_Hare_owns 41 = .ok (.iload_n 1, 1) := by decide +kernel
theorem d_Hare_owns_42 : decode b_Hare_owns 42 = .ok (.iload_n 2, 1) := by decide +kernel
theorem d_Hare_owns_43 : decode b_Hare_owns 43 = .ok (.iastore, 1) := by decide +kernel
theorem d_Hare_owns_44 : decode b_Hare_owns 44 = .ok (.iload_n 3, 1) := by decide +kernel
theorem d_Hare_owns_45 : decode b_Hare_owns 45 = .ok (.ireturn, 1) := by decide +kernel
theorem v_Hare_owns : dk_Yv y_Hare_owns b_Hare_owns 4 (some .int) 2 := ⟨dk_in (List.mem_of_getElem? (i := 418) (by decide +kernel)) rfl, dk_in (List.mem_of_getElem? (i := 419) (by decide +kernel)) rfl, dk_in (List.mem_of_getElem? (i := 66) (by decide +kernel)) rfl, dk_in (List.mem_of_getElem? (i := 420) (by decide +kernel)) rfl, by decide +kernel, by decide +kernel, by decide +kernel⟩
abbrev rm_Hare_owns : Room := { frames := 2, cells := 0, slots := 0, locals := 40 }
theorem f_Hare_89 : Cond.fieldLink R_Hare 89 (T_Land 0).1 (T_Land 0).2.1 (T_Land 0).2.2.1 ∈ dk_tb := dk_in (List.mem_of_getElem? (i := 100) (by decide +kernel)) rfl
theorem m_Hare_86 : Cond.methodLink R_Hare 86 y_Land_hasGround ∈ dk_tb := dk_in (List.mem_of_getElem? (i := 421) (by decide +kernel)) rfl
def B_Hare_owns_0 (n T : Nat)  (x1 : Int32) (x2 : Int32) (S : dk_S) : Option (Int32 × dk_S) :=
  dk_c (F_Land_hasGround n T x1 S) fun r2 S1 => if ¬ r2 = 0 then (dk_c (F_Hare_isOneOrNobody n T x2 S1) fun r4 S3 => if ¬ r4 = 0 then (dk_r 8 (S3 2) x1 fun v5 => dk_w S3 2 8 x1 x2 fun S6 => some (v5, S6)) else (some ((-7 : Int32), S3))) else (some ((-5 : Int32), S1))
set_option maxRecDepth 20000 in
theorem kb_Hare_owns_0 {p : Program} {l : Launch} {e : Env} {s : State} {m : MethodId} {args : Array Value} {below : List Frame} {meth : Method} {c : Code} {g : dk_G} {A : Nat → Prop} {Q : State → Prop} {ad : Nat → Nat} {T : Nat} {n : Nat} {res : (Int32 × dk_S)} (X : dk_X p s m args meth c b_Hare_owns 4 R_Hare (some .int) g A) (hR : dk_Ri p l e rm_Hare_owns s m args below meth c g A Q 4 b_Hare_owns (some .int) (wC g ad T) res)  {x1 : Int32} {x2 : Int32} {S : dk_S}  (hF : B_Hare_owns_0 n T  x1 x2 S = some res) : dk_J p l e rm_Hare_owns s m args below meth c g A Q 4 0 0 0 [(0, .ref (ad 0)), (1, .int x1), (2, .int x2)] [] (wC g ad T S) := by
  unfold B_Hare_owns_0 at hF
  refine dk_aload_n (k := 0) (i := 0) X 0 rfl rfl d_Hare_owns_0 ?_
  refine dk_get X q_Hare 0 0 (by decide) (oC_Hare g ad T S) rfl f_Hare_10 d_Hare_owns_1 ?_
  refine dk_iload_n (k := 1) (i := 1) X 1 rfl rfl d_Hare_owns_4 ?_
  refine dk_callVi X v_Land_hasGround [.int x1] (c_Land_hasGround l g ad T n x1 S) 1 (oC_Land g ad T S) rfl rfl m_Hare_86 rfl rfl ⟨rfl, rfl, Nat.le_of_ble_eq_true rfl, Nat.le_of_ble_eq_true rfl, Nat.le_refl _, Nat.le_refl _⟩ (Nat.le_of_ble_eq_true rfl) d_Hare_owns_5 hF (fun r2 S1 hF => ?_)
  refine dk_if_ne (tgt := 14) X (by decide) d_Hare_owns_8 hF (fun hF => ?_) (fun hF => ?_)
  · refine dk_iload_n (k := 2) (i := 2) X 2 rfl rfl d_Hare_owns_14 ?_
    refine dk_callSi X v_Hare_isOneOrNobody [.int x2] (c_Hare_isOneOrNobody l g ad T n x2 S1) m_Hare_78 rfl rfl ⟨rfl, rfl, Nat.le_of_ble_eq_true rfl, Nat.le_of_ble_eq_true rfl, Nat.le_refl _, Nat.le_refl _⟩ (Nat.le_of_ble_eq_true rfl) d_Hare_owns_15 hF (fun r4 S3 hF => ?_)
    refine dk_if_ne (tgt := 24) X (by decide) d_Hare_owns_18 hF (fun hF => ?_) (fun hF => ?_)
    · refine dk_aload_n (k := 0) (i := 0) X 0 rfl rfl d_Hare_owns_24 ?_
      refine dk_get X q_Hare 0 0 (by decide) (oC_Hare g ad T S3) rfl f_Hare_10 d_Hare_owns_25 ?_
      refine dk_get X q_Land 1 0 (by decide) (oC_Land g ad T S3) rfl f_Hare_89 d_Hare_owns_28 ?_
      refine dk_iload_n (k := 1) (i := 1) X 1 rfl rfl d_Hare_owns_31 ?_
      refine dk_iald X 2 (aC_2 g ad T S3) d_Hare_owns_32 hF (fun v5 hF => ?_)
      refine dk_istore_n (k := 3) (i := 3) (lv' := [(3, .int v5), (0, .ref (ad 0)), (1, .int x1), (2, .int x2)]) X rfl (by decide) rfl d_Hare_owns_33 ?_
      refine dk_aload_n (k := 0) (i := 0) X 1 rfl rfl d_Hare_owns_34 ?_
      refine dk_get X q_Hare 0 0 (by decide) (oC_Hare g ad T S3) rfl f_Hare_10 d_Hare_owns_35 ?_
      refine dk_get X q_Land 1 0 (by decide) (oC_Land g ad T S3) rfl f_Hare_89 d_Hare_owns_38 ?_
      refine dk_iload_n (k := 1) (i := 1) X 2 rfl rfl d_Hare_owns_41 ?_
      refine dk_iload_n (k := 2) (i := 2) X 3 rfl rfl d_Hare_owns_42 ?_
      refine dk_iast X 2 (aC_2 g ad T S3) (sC_2 g ad T S3 _ _) d_Hare_owns_43 hF (fun S6 hF => ?_)
      refine dk_iload_n (k := 3) (i := 3) X 0 rfl rfl d_Hare_owns_44 ?_
      exact dk_reti hR hF d_Hare_owns_45
    · refine dk_bipush (v := -7) X (by decide) d_Hare_owns_21 ?_
      exact dk_reti hR hF d_Hare_owns_23
  · refine dk_bipush (v := -5) X (by decide) d_Hare_owns_11 ?_
    exact dk_reti hR hF d_Hare_owns_13
def F_Hare_owns (n T : Nat) (x1 : Int32) (x2 : Int32) (S : dk_S) : Option (Int32 × dk_S) := B_Hare_owns_0 n T x1 x2 S
theorem c_Hare_owns (l : Launch) (g : dk_G) (ad : Nat → Nat) (T n : Nat) (x1 : Int32) (x2 : Int32)  (S : dk_S) : dk_Mi l g y_Hare_owns b_Hare_owns 4 rm_Hare_owns (some .int) [.ref (ad 0), .int x1, .int x2] (wC g ad T) S (F_Hare_owns n T x1 x2 S) := dk_enteri (by decide) (Nat.le_of_ble_eq_true rfl) (fun p e s m args below meth c A Q res hF X hR => (kb_Hare_owns_0 (n := n) X hR  hF))
abbrev b_Hare_beast : ByteArray := prog_1_method_4_code
def y_Hare_beast : MethodName := ⟨R_Hare, "beast", "(II)I"⟩
theorem d_Hare_beast_0 : decode b_Hare_beast 0 = .ok (.aload_n 0, 1) := by decide +kernel
theorem d_Hare_beast_1 : decode b_Hare_beast 1 = .ok (.getfield 10, 3) := by decide +kernel
theorem d_Hare_beast_4 : decode b_Hare_beast 4 = .ok (.iload_n 1, 1) := by decide +kernel
theorem d_Hare_beast_5 : decode b_Hare_beast 5 = .ok (.invokevirtual 86, 3) := by decide +kernel
theorem d_Hare_beast_8 : decode b_Hare_beast 8 = .ok (.ifCond .ne 5, 3) := by decide +kernel
theorem d_Hare_beast_11 : decode b_Hare_beast 11 = .ok (.iconst (-1), 1) := by decide +kernel
theorem d_Hare_beast_12 : decode b_Hare_beast 12 = .ok (.ireturn, 1) := by decide +kernel
theorem d_Hare_beast_13 : decode b_Hare_beast 13 = .ok (.iload_n 2, 1) := by decide +kernel
theorem d_Hare_beast_14 : decode b_Hare_beast 14 = .ok (.invokestatic 78, 3) := by decide +kernel
theorem d_Hare_beast_17 : decode b_Hare_beast 17 = .ok (.ifCond .ne 6, 3) := by decide +kernel
theorem d_Hare_beast_20 : decode b_Hare_beast 20 = .ok (.bipush (-2), 2) := by decide +kernel
theorem d_Hare_beast_22 : decode b_Hare_beast 22 = .ok (.ireturn, 1) := by decide +kernel
theorem d_Hare_beast_23 : decode b_Hare_beast 23 = .ok (.aload_n 0, 1) := by decide +kernel
theorem d_Hare_beast_24 : decode b_Hare_beast 24 = .ok (.getfield 10, 3) := by decide +kernel
theorem d_Hare_beast_27 : decode b_Hare_beast 27 = .ok (.iload_n 1, 1) := by decide +kernel
theorem d_Hare_beast_28 : decode b_Hare_beast 28 = .ok (.iload_n 2, 1) := by decide +kernel
theorem d_Hare_beast_29 : decode b_Hare_beast 29 = .ok (.invokevirtual 93, 3) := by decide +kernel
theorem d_Hare_beast_32 : decode b_Hare_beast 32 = .ok (.ireturn, 1) := by decide +kernel
theorem v_Hare_beast : dk_Yv y_Hare_beast b_Hare_beast 3 (some .int) 2 := ⟨dk_in (List.mem_of_getElem? (i := 426) (by decide +kernel)) rfl, dk_in (List.mem_of_getElem? (i := 427) (by decide +kernel)) rfl, dk_in (List.mem_of_getElem? (i := 66) (by decide +kernel)) rfl, dk_in (List.mem_of_getElem? (i := 428) (by decide +kernel)) rfl, by decide +kernel, by decide +kernel, by decide +kernel⟩
abbrev rm_Hare_beast : Room := { frames := 2, cells := 0, slots := 0, locals := 40 }
theorem m_Hare_93 : Cond.methodLink R_Hare 93 y_Land_addBeast ∈ dk_tb := dk_in (List.mem_of_getElem? (i := 429) (by decide +kernel)) rfl
def B_Hare_beast_0 (n T : Nat)  (x1 : Int32) (x2 : Int32) (S : dk_S) : Option (Int32 × dk_S) :=
  dk_c (F_Land_hasGround n T x1 S) fun r2 S1 => if ¬ r2 = 0 then (dk_c (F_Hare_isOneOrNobody n T x2 S1) fun r4 S3 => if ¬ r4 = 0 then (dk_c (F_Land_addBeast n T x1 x2 S3) fun r6 S5 => some (r6, S5)) else (some ((-2 : Int32), S3))) else (some ((-1 : Int32), S1))
set_option maxRecDepth 20000 in
theorem kb_Hare_beast_0 {p : Program} {l : Launch} {e : Env} {s : State} {m : MethodId} {args : Array Value} {below : List Frame} {meth : Method} {c : Code} {g : dk_G} {A : Nat → Prop} {Q : State → Prop} {ad : Nat → Nat} {T : Nat} {n : Nat} {res : (Int32 × dk_S)} (X : dk_X p s m args meth c b_Hare_beast 3 R_Hare (some .int) g A) (hR : dk_Ri p l e rm_Hare_beast s m args below meth c g A Q 3 b_Hare_beast (some .int) (wC g ad T) res)  {x1 : Int32} {x2 : Int32} {S : dk_S}  (hF : B_Hare_beast_0 n T  x1 x2 S = some res) : dk_J p l e rm_Hare_beast s m args below meth c g A Q 3 0 0 0 [(0, .ref (ad 0)), (1, .int x1), (2, .int x2)] [] (wC g ad T S) := by
  unfold B_Hare_beast_0 at hF
  refine dk_aload_n (k := 0) (i := 0) X 0 rfl rfl d_Hare_beast_0 ?_
  refine dk_get X q_Hare 0 0 (by decide) (oC_Hare g ad T S) rfl f_Hare_10 d_Hare_beast_1 ?_
  refine dk_iload_n (k := 1) (i := 1) X 1 rfl rfl d_Hare_beast_4 ?_
  refine dk_callVi X v_Land_hasGround [.int x1] (c_Land_hasGround l g ad T n x1 S) 1 (oC_Land g ad T S) rfl rfl m_Hare_86 rfl rfl ⟨rfl, rfl, Nat.le_of_ble_eq_true rfl, Nat.le_of_ble_eq_true rfl, Nat.le_refl _, Nat.le_refl _⟩ (Nat.le_of_ble_eq_true rfl) d_Hare_beast_5 hF (fun r2 S1 hF => ?_)
  refine dk_if_ne (tgt := 13) X (by decide) d_Hare_beast_8 hF (fun hF => ?_) (fun hF => ?_)
  · refine dk_iload_n (k := 2) (i := 2) X 2 rfl rfl d_Hare_beast_13 ?_
    refine dk_callSi X v_Hare_isOneOrNobody [.int x2] (c_Hare_isOneOrNobody l g ad T n x2 S1) m_Hare_78 rfl rfl ⟨rfl, rfl, Nat.le_of_ble_eq_true rfl, Nat.le_of_ble_eq_true rfl, Nat.le_refl _, Nat.le_refl _⟩ (Nat.le_of_ble_eq_true rfl) d_Hare_beast_14 hF (fun r4 S3 hF => ?_)
    refine dk_if_ne (tgt := 23) X (by decide) d_Hare_beast_17 hF (fun hF => ?_) (fun hF => ?_)
    · refine dk_aload_n (k := 0) (i := 0) X 0 rfl rfl d_Hare_beast_23 ?_
      refine dk_get X q_Hare 0 0 (by decide) (oC_Hare g ad T S3) rfl f_Hare_10 d_Hare_beast_24 ?_
      refine dk_iload_n (k := 1) (i := 1) X 1 rfl rfl d_Hare_beast_27 ?_
      refine dk_iload_n (k := 2) (i := 2) X 2 rfl rfl d_Hare_beast_28 ?_
      refine dk_callVi X v_Land_addBeast [.int x1, .int x2] (c_Land_addBeast l g ad T n x1 x2 S3) 1 (oC_Land g ad T S3) rfl rfl m_Hare_93 rfl rfl ⟨rfl, rfl, Nat.le_of_ble_eq_true rfl, Nat.le_of_ble_eq_true rfl, Nat.le_refl _, Nat.le_refl _⟩ (Nat.le_of_ble_eq_true rfl) d_Hare_beast_29 hF (fun r6 S5 hF => ?_)
      exact dk_reti hR hF d_Hare_beast_32
    · refine dk_bipush (v := -2) X (by decide) d_Hare_beast_20 ?_
      exact dk_reti hR hF d_Hare_beast_22
  · refine dk_iconst (v := -1) X (by decide) d_Hare_beast_11 ?_
    exact dk_reti hR hF d_Hare_beast_12
def F_Hare_beast (n T : Nat) (x1 : Int32) (x2 : Int32) (S : dk_S) : Option (Int32 × dk_S) := B_Hare_beast_0 n T x1 x2 S
theorem c_Hare_beast (l : Launch) (g : dk_G) (ad : Nat → Nat) (T n : Nat) (x1 : Int32) (x2 : Int32)  (S : dk_S) : dk_Mi l g y_Hare_beast b_Hare_beast 3 rm_Hare_beast (some .int) [.ref (ad 0), .int x1, .int x2] (wC g ad T) S (F_Hare_beast n T x1 x2 S) := dk_enteri (by decide) (Nat.le_of_ble_eq_true rfl) (fun p e s m args below meth c A Q res hF X hR => (kb_Hare_beast_0 (n := n) X hR  hF))
abbrev b_Hare_moment : ByteArray := prog_1_method_5_code
def y_Hare_moment : MethodName := ⟨R_Hare, "moment", "(IIIII)I"⟩
theorem d_Hare_moment_0 : decode b_Hare_moment 0 = .ok (.aload_n 0, 1) := by decide +kernel
theorem d_Hare_moment_1 : decode b_Hare_moment 1 = .ok (.getfield 10, 3) := by decide +kernel
theorem d_Hare_moment_4 : decode b_Hare_moment 4 = .ok (.iload_n 3, 1) := by decide +kernel
theorem d_Hare_moment_5 : decode b_Hare_moment 5 = .ok (.invokevirtual 97, 3) := by decide +kernel
theorem d_Hare_moment_8 : decode b_Hare_moment 8 = .ok (.ifCond .ne 5, 3) := by decide +kernel
theorem d_Hare_moment_11 : decode b_Hare_moment 11 = .ok (.iconst (-1), 1) := by decide +kernel
theorem d_Hare_moment_12 : decode b_Hare_moment 12 = .ok (.ireturn, 1) := by decide +kernel
theorem d_Hare_moment_13 : decode b_Hare_moment 13 = .ok (.iload_n 1, 1) := by decide +kernel
theorem d_Hare_moment_14 : decode b_Hare_moment 14 = .ok (.aload_n 0, 1) := by decide +kernel
theorem d_Hare_moment_15 : decode b_Hare_moment 15 = .ok (.getfield 19, 3) := by decide +kernel
theorem d_Hare_moment_18 : decode b_Hare_moment 18 = .ok (.invokevirtual 100, 3) := by decide +kernel
theorem d_Hare_moment_21 : decode b_Hare_moment 21 = .ok (.if_icmp .lt 28, 3) := by decide +kernel
theorem d_Hare_moment_24 : decode b_Hare_moment 24 = .ok (.iload_n 1, 1) := by decide +kernel
theorem d_Hare_moment_25 : decode b_Hare_moment 25 = .ok (.sipush 1000, 3) := by decide +kernel
theorem d_Hare_moment_28 : decode b_Hare_moment 28 = .ok (.if_icmp .ge 21, 3) := by decide +kernel
theorem d_Hare_moment_31 : decode b_Hare_moment 31 = .ok (.iload_n 2, 1) := by decide +kernel
theorem d_Hare_moment_32 : decode b_Hare_moment 32 = .ok (.ifCond .lt 17, 3) := by decide +kernel
theorem d_Hare_moment_35 : decode b_Hare_moment 35 = .ok (.iload_n 2, 1) := by decide +kernel
theorem d_Hare_moment_36 : decode b_Hare_moment 36 = .ok (.bipush 9, 2) := by decide +kernel
theorem d_Hare_moment_38 : decode b_Hare_moment 38 = .ok (.if_icmp .gt 11, 3) := by decide +kernel
theorem d_Hare_moment_41 : decode b_Hare_moment 41 = .ok (.iload 4, 2) := by decide +kernel
theorem d_Hare_moment_43 : decode b_Hare_moment 43 = .ok (.invokestatic 104, 3) := by decide +kernel
theorem d_Hare_moment_46 : decode b_Hare_moment 46 = .ok (.ifCond .ne 6, 3) := by decide +kernel
theorem d_Hare_moment_49 : decode b_Hare_moment 49 = .ok (.bipush (-2), 2) := by decide +kernel
theorem d_Hare_moment_51 : decode b_Hare_moment 51 = .ok (.ireturn, 1) := by decide +kernel
theorem d_Hare_moment_52 : decode b_Hare_moment 52 = .ok (.iload 5, 2) := by decide +kernel
theorem d_Hare_moment_54 : decode b_Hare_moment 54 = .ok (.ifCond .lt 27, 3) := by decide +kernel
theorem d_Hare_moment_57 : decode b_Hare_moment 57 = .ok (.iload 5, 2) := by decide +kernel
theorem d_Hare_moment_59 : decode b_Hare_moment 59 = .ok (.bipush 10, 2) := by decide +kernel
theorem d_Hare_moment_61 : decode b_Hare_moment 61 = .ok (.if_icmp .ge 20, 3) := by decide +kernel
theorem d_Hare_moment_64 : decode b_Hare_moment 64 = .ok (.iload_n 2, 1) := by decide +kernel
theorem d_Hare_moment_65 : decode b_Hare_moment 65 = .ok (.iconst 5, 1) := by decide +kernel
theorem d_Hare_moment_66 : decode b_Hare_moment 66 = .ok (.if_icmp .ne 18, 3) := by decide +kernel
theorem d_Hare_moment_69 : decode b_Hare_moment 69 = .ok (.aload_n 0, 1) := by decide +kernel
theorem d_Hare_moment_70 : decode b_Hare_moment 70 = .ok (.getfield 10, 3) := by decide +kernel
theorem d_Hare_moment_73 : decode b_Hare_moment 73 = .ok (.iload 5, 2) := by decide +kernel
theorem d_Hare_moment_75 : decode b_Hare_moment 75 = .ok (.invokevirtual 86, 3) := by decide +kernel
theorem d_Hare_moment_78 : decode b_Hare_moment 78 = .ok (.ifCond .ne 6, 3) := by decide +kernel
theorem d_Hare_moment_81 : decode b_Hare_moment 81 = .ok (.bipush (-2), 2) := by decide +kernel
theorem d_Hare_moment_83 : decode b_Hare_moment 83 = .ok (.ireturn, 1) := by decide +kernel
theorem d_Hare_moment_84 : decode b_Hare_moment 84 = .ok (.aload_n 0, 1) := by decide +kernel
theorem d_Hare_moment_85 : decode b_Hare_moment 85 = .ok (.getfield 19, 3) := by decide +kernel
theorem d_Hare_moment_88 : decode b_Hare_moment 88 = .ok (.iload_n 1, 1) := by decide +kernel
theorem d_Hare_moment_89 : decode b_Hare_moment 89 = .ok (.iload_n 2, 1) := by decide +kernel
theorem d_Hare_moment_90 : decode b_Hare_moment 90 = .ok (.iload_n 3, 1) := by decide +kernel
theorem d_Hare_moment_91 : decode b_Hare_moment 91 = .ok (.iload 4, 2) := by decide +kernel
theorem d_Hare_moment_93 : decode b_Hare_moment 93 = .ok (.iload 5, 2) := by decide +kernel
theorem d_Hare_moment_95 : decode b_Hare_moment 95 = .ok (.invokevirtual 107, 3) := by decide +kernel
theorem d_Hare_moment_98 : decode b_Hare_moment 98 = .ok (.ireturn, 1) := by decide +kernel
theorem v_Hare_moment : dk_Yv y_Hare_moment b_Hare_moment 6 (some .int) 5 := ⟨dk_in (List.mem_of_getElem? (i := 434) (by decide +kernel)) rfl, dk_in (List.mem_of_getElem? (i := 435) (by decide +kernel)) rfl, dk_in (List.mem_of_getElem? (i := 66) (by decide +kernel)) rfl, dk_in (List.mem_of_getElem? (i := 436) (by decide +kernel)) rfl, by decide +kernel, by decide +kernel, by decide +kernel⟩
abbrev rm_Hare_moment : Room := { frames := 1, cells := 0, slots := 0, locals := 25 }
theorem f_Hare_19 : Cond.fieldLink R_Hare 19 (T_Hare 1).1 (T_Hare 1).2.1 (T_Hare 1).2.2.1 ∈ dk_tb := dk_in (List.mem_of_getElem? (i := 373) (by decide +kernel)) rfl
theorem m_Hare_100 : Cond.methodLink R_Hare 100 y_Diary_lastTime ∈ dk_tb := dk_in (List.mem_of_getElem? (i := 441) (by decide +kernel)) rfl
theorem m_Hare_107 : Cond.methodLink R_Hare 107 y_Diary_add ∈ dk_tb := dk_in (List.mem_of_getElem? (i := 445) (by decide +kernel)) rfl
theorem m_Hare_97 : Cond.methodLink R_Hare 97 y_Land_hasBeast ∈ dk_tb := dk_in (List.mem_of_getElem? (i := 437) (by decide +kernel)) rfl
def B_Hare_moment_84 (n T : Nat)  (x1 : Int32) (x2 : Int32) (x3 : Int32) (x4 : Int32) (x5 : Int32) (S : dk_S) : Option (Int32 × dk_S) :=
  dk_c (F_Diary_add n T x1 x2 x3 x4 x5 S) fun r2 S1 => some (r2, S1)
set_option maxRecDepth 20000 in
theorem kb_Hare_moment_84 {p : Program} {l : Launch} {e : Env} {s : State} {m : MethodId} {args : Array Value} {below : List Frame} {meth : Method} {c : Code} {g : dk_G} {A : Nat → Prop} {Q : State → Prop} {ad : Nat → Nat} {T : Nat} {n : Nat} {res : (Int32 × dk_S)} (X : dk_X p s m args meth c b_Hare_moment 6 R_Hare (some .int) g A) (hR : dk_Ri p l e rm_Hare_moment s m args below meth c g A Q 6 b_Hare_moment (some .int) (wC g ad T) res)  {x1 : Int32} {x2 : Int32} {x3 : Int32} {x4 : Int32} {x5 : Int32} {S : dk_S}  (hF : B_Hare_moment_84 n T  x1 x2 x3 x4 x5 S = some res) : dk_J p l e rm_Hare_moment s m args below meth c g A Q 6 0 0 84 [(0, .ref (ad 0)), (1, .int x1), (2, .int x2), (3, .int x3), (4, .int x4), (5, .int x5)] [] (wC g ad T S) := by
  unfold B_Hare_moment_84 at hF
  refine dk_aload_n (k := 0) (i := 0) X 0 rfl rfl d_Hare_moment_84 ?_
  refine dk_get X q_Hare 0 1 (by decide) (oC_Hare g ad T S) rfl f_Hare_19 d_Hare_moment_85 ?_
  refine dk_iload_n (k := 1) (i := 1) X 1 rfl rfl d_Hare_moment_88 ?_
  refine dk_iload_n (k := 2) (i := 2) X 2 rfl rfl d_Hare_moment_89 ?_
  refine dk_iload_n (k := 3) (i := 3) X 3 rfl rfl d_Hare_moment_90 ?_
  refine dk_iload (i := 4) X 4 rfl d_Hare_moment_91 ?_
  refine dk_iload (i := 5) X 5 rfl d_Hare_moment_93 ?_
  refine dk_callVi X v_Diary_add [.int x1, .int x2, .int x3, .int x4, .int x5] (c_Diary_add l g ad T n x1 x2 x3 x4 x5 S) 5 (oC_Diary g ad T S) rfl rfl m_Hare_107 rfl rfl ⟨rfl, rfl, Nat.le_of_ble_eq_true rfl, Nat.le_of_ble_eq_true rfl, Nat.le_refl _, Nat.le_refl _⟩ (Nat.le_of_ble_eq_true rfl) d_Hare_moment_95 hF (fun r2 S1 hF => ?_)
  exact dk_reti hR hF d_Hare_moment_98
def B_Hare_moment_0 (n T : Nat)  (x1 : Int32) (x2 : Int32) (x3 : Int32) (x4 : Int32) (x5 : Int32) (S : dk_S) : Option (Int32 × dk_S) :=
  dk_c (F_Land_hasBeast n T x3 S) fun r4 S3 => if ¬ r4 = 0 then (dk_c (F_Diary_lastTime n T S3) fun r6 S5 => if x1 < r6 then (some ((-2 : Int32), S5)) else (if (1000 : Int32) ≤ x1 then (some ((-2 : Int32), S5)) else (if x2 < 0 then (some ((-2 : Int32), S5)) else (if (9 : Int32) < x2 then (some ((-2 : Int32), S5)) else (dk_c (F_Hare_isOne n T x4 S5) fun r8 S7 => if ¬ r8 = 0 then (if x5 < 0 then (some ((-2 : Int32), S7)) else (if (10 : Int32) ≤ x5 then (some ((-2 : Int32), S7)) else (if ¬ x2 = (5 : Int32) then (B_Hare_moment_84 n T  x1 x2 x3 x4 x5 S7) else (dk_c (F_Land_hasGround n T x5 S7) fun r10 S9 => if ¬ r10 = 0 then (B_Hare_moment_84 n T  x1 x2 x3 x4 x5 S9) else (some ((-2 : Int32), S9)))))) else (some ((-2 : Int32), S7))))))) else (some ((-1 : Int32), S3))
set_option maxRecDepth 20000 in
theorem kb_Hare_moment_0 {p : Program} {l : Launch} {e : Env} {s : State} {m : MethodId} {args : Array Value} {below : List Frame} {meth : Method} {c : Code} {g : dk_G} {A : Nat → Prop} {Q : State → Prop} {ad : Nat → Nat} {T : Nat} {n : Nat} {res : (Int32 × dk_S)} (X : dk_X p s m args meth c b_Hare_moment 6 R_Hare (some .int) g A) (hR : dk_Ri p l e rm_Hare_moment s m args below meth c g A Q 6 b_Hare_moment (some .int) (wC g ad T) res)  {x1 : Int32} {x2 : Int32} {x3 : Int32} {x4 : Int32} {x5 : Int32} {S : dk_S}  (hF : B_Hare_moment_0 n T  x1 x2 x3 x4 x5 S = some res) : dk_J p l e rm_Hare_moment s m args below meth c g A Q 6 0 0 0 [(0, .ref (ad 0)), (1, .int x1), (2, .int x2), (3, .int x3), (4, .int x4), (5, .int x5)] [] (wC g ad T S) := by
  unfold B_Hare_moment_0 at hF
  refine dk_aload_n (k := 0) (i := 0) X 0 rfl rfl d_Hare_moment_0 ?_
  refine dk_get X q_Hare 0 0 (by decide) (oC_Hare g ad T S) rfl f_Hare_10 d_Hare_moment_1 ?_
  refine dk_iload_n (k := 3) (i := 3) X 3 rfl rfl d_Hare_moment_4 ?_
  refine dk_callVi X v_Land_hasBeast [.int x3] (c_Land_hasBeast l g ad T n x3 S) 1 (oC_Land g ad T S) rfl rfl m_Hare_97 rfl rfl ⟨rfl, rfl, Nat.le_of_ble_eq_true rfl, Nat.le_of_ble_eq_true rfl, Nat.le_refl _, Nat.le_refl _⟩ (Nat.le_of_ble_eq_true rfl) d_Hare_moment_5 hF (fun r4 S3 hF => ?_)
  refine dk_if_ne (tgt := 13) X (by decide) d_Hare_moment_8 hF (fun hF => ?_) (fun hF => ?_)
  · refine dk_iload_n (k := 1) (i := 1) X 1 rfl rfl d_Hare_moment_13 ?_
    refine dk_aload_n (k := 0) (i := 0) X 0 rfl rfl d_Hare_moment_14 ?_
    refine dk_get X q_Hare 0 1 (by decide) (oC_Hare g ad T S3) rfl f_Hare_19 d_Hare_moment_15 ?_
    refine dk_callVi X v_Diary_lastTime [] (c_Diary_lastTime l g ad T n S3) 5 (oC_Diary g ad T S3) rfl rfl m_Hare_100 rfl rfl ⟨rfl, rfl, Nat.le_of_ble_eq_true rfl, Nat.le_of_ble_eq_true rfl, Nat.le_refl _, Nat.le_refl _⟩ (Nat.le_of_ble_eq_true rfl) d_Hare_moment_18 hF (fun r6 S5 hF => ?_)
    refine dk_icmp_lt (tgt := 49) X (by decide) d_Hare_moment_21 hF (fun hF => ?_) (fun hF => ?_)
    · refine dk_bipush (v := -2) X (by decide) d_Hare_moment_49 ?_
      exact dk_reti hR hF d_Hare_moment_51
    · refine dk_iload_n (k := 1) (i := 1) X 1 rfl rfl d_Hare_moment_24 ?_
      refine dk_sipush (v := 1000) X (by decide) d_Hare_moment_25 ?_
      refine dk_icmp_ge (tgt := 49) X (by decide) d_Hare_moment_28 hF (fun hF => ?_) (fun hF => ?_)
      · refine dk_bipush (v := -2) X (by decide) d_Hare_moment_49 ?_
        exact dk_reti hR hF d_Hare_moment_51
      · refine dk_iload_n (k := 2) (i := 2) X 2 rfl rfl d_Hare_moment_31 ?_
        refine dk_if_lt (tgt := 49) X (by decide) d_Hare_moment_32 hF (fun hF => ?_) (fun hF => ?_)
        · refine dk_bipush (v := -2) X (by decide) d_Hare_moment_49 ?_
          exact dk_reti hR hF d_Hare_moment_51
        · refine dk_iload_n (k := 2) (i := 2) X 2 rfl rfl d_Hare_moment_35 ?_
          refine dk_bipush (v := 9) X (by decide) d_Hare_moment_36 ?_
          refine dk_icmp_gt (tgt := 49) X (by decide) d_Hare_moment_38 hF (fun hF => ?_) (fun hF => ?_)
          · refine dk_bipush (v := -2) X (by decide) d_Hare_moment_49 ?_
            exact dk_reti hR hF d_Hare_moment_51
          · refine dk_iload (i := 4) X 4 rfl d_Hare_moment_41 ?_
            refine dk_callSi X v_Hare_isOne [.int x4] (c_Hare_isOne l g ad T n x4 S5) m_Hare_104 rfl rfl ⟨rfl, rfl, Nat.le_of_ble_eq_true rfl, Nat.le_of_ble_eq_true rfl, Nat.le_refl _, Nat.le_refl _⟩ (Nat.le_of_ble_eq_true rfl) d_Hare_moment_43 hF (fun r8 S7 hF => ?_)
            refine dk_if_ne (tgt := 52) X (by decide) d_Hare_moment_46 hF (fun hF => ?_) (fun hF => ?_)
            · refine dk_iload (i := 5) X 5 rfl d_Hare_moment_52 ?_
              refine dk_if_lt (tgt := 81) X (by decide) d_Hare_moment_54 hF (fun hF => ?_) (fun hF => ?_)
              · refine dk_bipush (v := -2) X (by decide) d_Hare_moment_81 ?_
                exact dk_reti hR hF d_Hare_moment_83
              · refine dk_iload (i := 5) X 5 rfl d_Hare_moment_57 ?_
                refine dk_bipush (v := 10) X (by decide) d_Hare_moment_59 ?_
                refine dk_icmp_ge (tgt := 81) X (by decide) d_Hare_moment_61 hF (fun hF => ?_) (fun hF => ?_)
                · refine dk_bipush (v := -2) X (by decide) d_Hare_moment_81 ?_
                  exact dk_reti hR hF d_Hare_moment_83
                · refine dk_iload_n (k := 2) (i := 2) X 2 rfl rfl d_Hare_moment_64 ?_
                  refine dk_iconst (v := 5) X (by decide) d_Hare_moment_65 ?_
                  refine dk_icmp_ne (tgt := 84) X (by decide) d_Hare_moment_66 hF (fun hF => ?_) (fun hF => ?_)
                  · exact (kb_Hare_moment_84 (n := n) X hR   hF)
                  · refine dk_aload_n (k := 0) (i := 0) X 0 rfl rfl d_Hare_moment_69 ?_
                    refine dk_get X q_Hare 0 0 (by decide) (oC_Hare g ad T S7) rfl f_Hare_10 d_Hare_moment_70 ?_
                    refine dk_iload (i := 5) X 5 rfl d_Hare_moment_73 ?_
                    refine dk_callVi X v_Land_hasGround [.int x5] (c_Land_hasGround l g ad T n x5 S7) 1 (oC_Land g ad T S7) rfl rfl m_Hare_86 rfl rfl ⟨rfl, rfl, Nat.le_of_ble_eq_true rfl, Nat.le_of_ble_eq_true rfl, Nat.le_refl _, Nat.le_refl _⟩ (Nat.le_of_ble_eq_true rfl) d_Hare_moment_75 hF (fun r10 S9 hF => ?_)
                    refine dk_if_ne (tgt := 84) X (by decide) d_Hare_moment_78 hF (fun hF => ?_) (fun hF => ?_)
                    · exact (kb_Hare_moment_84 (n := n) X hR   hF)
                    · refine dk_bipush (v := -2) X (by decide) d_Hare_moment_81 ?_
                      exact dk_reti hR hF d_Hare_moment_83
            · refine dk_bipush (v := -2) X (by decide) d_Hare_moment_49 ?_
              exact dk_reti hR hF d_Hare_moment_51
  · refine dk_iconst (v := -1) X (by decide) d_Hare_moment_11 ?_
    exact dk_reti hR hF d_Hare_moment_12
def F_Hare_moment (n T : Nat) (x1 : Int32) (x2 : Int32) (x3 : Int32) (x4 : Int32) (x5 : Int32) (S : dk_S) : Option (Int32 × dk_S) := B_Hare_moment_0 n T x1 x2 x3 x4 x5 S
theorem c_Hare_moment (l : Launch) (g : dk_G) (ad : Nat → Nat) (T n : Nat) (x1 : Int32) (x2 : Int32) (x3 : Int32) (x4 : Int32) (x5 : Int32)  (S : dk_S) : dk_Mi l g y_Hare_moment b_Hare_moment 6 rm_Hare_moment (some .int) [.ref (ad 0), .int x1, .int x2, .int x3, .int x4, .int x5] (wC g ad T) S (F_Hare_moment n T x1 x2 x3 x4 x5 S) := dk_enteri (by decide) (Nat.le_of_ble_eq_true rfl) (fun p e s m args below meth c A Q res hF X hR => (kb_Hare_moment_0 (n := n) X hR  hF))
abbrev b_Hare_undo : ByteArray := prog_1_method_6_code
def y_Hare_undo : MethodName := ⟨R_Hare, "undo", "()I"⟩
theorem d_Hare_undo_0 : decode b_Hare_undo 0 = .ok (.aload_n 0, 1) := by decide +kernel
theorem d_Hare_undo_1 : decode b_Hare_undo 1 = .ok (.getfield 19, 3) := by decide +kernel
theorem d_Hare_undo_4 : decode b_Hare_undo 4 = .ok (.invokevirtual 111, 3) := by decide +kernel
theorem d_Hare_undo_7 : decode b_Hare_undo 7 = .ok (.ireturn, 1) := by decide +kernel
theorem v_Hare_undo : dk_Yv y_Hare_undo b_Hare_undo 1 (some .int) 0 := ⟨dk_in (List.mem_of_getElem? (i := 450) (by decide +kernel)) rfl, dk_in (List.mem_of_getElem? (i := 451) (by decide +kernel)) rfl, dk_in (List.mem_of_getElem? (i := 66) (by decide +kernel)) rfl, dk_in (List.mem_of_getElem? (i := 452) (by decide +kernel)) rfl, by decide +kernel, by decide +kernel, by decide +kernel⟩
abbrev rm_Hare_undo : Room := { frames := 1, cells := 0, slots := 0, locals := 20 }
theorem m_Hare_111 : Cond.methodLink R_Hare 111 y_Diary_dropLast ∈ dk_tb := dk_in (List.mem_of_getElem? (i := 453) (by decide +kernel)) rfl
def B_Hare_undo_0 (n T : Nat)   (S : dk_S) : Option (Int32 × dk_S) :=
  dk_c (F_Diary_dropLast n T S) fun r2 S1 => some (r2, S1)
set_option maxRecDepth 20000 in
theorem kb_Hare_undo_0 {p : Program} {l : Launch} {e : Env} {s : State} {m : MethodId} {args : Array Value} {below : List Frame} {meth : Method} {c : Code} {g : dk_G} {A : Nat → Prop} {Q : State → Prop} {ad : Nat → Nat} {T : Nat} {n : Nat} {res : (Int32 × dk_S)} (X : dk_X p s m args meth c b_Hare_undo 1 R_Hare (some .int) g A) (hR : dk_Ri p l e rm_Hare_undo s m args below meth c g A Q 1 b_Hare_undo (some .int) (wC g ad T) res)   {S : dk_S}  (hF : B_Hare_undo_0 n T   S = some res) : dk_J p l e rm_Hare_undo s m args below meth c g A Q 1 0 0 0 [(0, .ref (ad 0))] [] (wC g ad T S) := by
  unfold B_Hare_undo_0 at hF
  refine dk_aload_n (k := 0) (i := 0) X 0 rfl rfl d_Hare_undo_0 ?_
  refine dk_get X q_Hare 0 1 (by decide) (oC_Hare g ad T S) rfl f_Hare_19 d_Hare_undo_1 ?_
  refine dk_callVi X v_Diary_dropLast [] (c_Diary_dropLast l g ad T n S) 5 (oC_Diary g ad T S) rfl rfl m_Hare_111 rfl rfl ⟨rfl, rfl, Nat.le_of_ble_eq_true rfl, Nat.le_of_ble_eq_true rfl, Nat.le_refl _, Nat.le_refl _⟩ (Nat.le_of_ble_eq_true rfl) d_Hare_undo_4 hF (fun r2 S1 hF => ?_)
  exact dk_reti hR hF d_Hare_undo_7
def F_Hare_undo (n T : Nat)  (S : dk_S) : Option (Int32 × dk_S) := B_Hare_undo_0 n T  S
theorem c_Hare_undo (l : Launch) (g : dk_G) (ad : Nat → Nat) (T n : Nat)   (S : dk_S) : dk_Mi l g y_Hare_undo b_Hare_undo 1 rm_Hare_undo (some .int) [.ref (ad 0)] (wC g ad T) S (F_Hare_undo n T  S) := dk_enteri (by decide) (Nat.le_of_ble_eq_true rfl) (fun p e s m args below meth c A Q res hF X hR => (kb_Hare_undo_0 (n := n) X hR  hF))
abbrev b_Hare_unsure : ByteArray := prog_1_method_7_code
def y_Hare_unsure : MethodName := ⟨R_Hare, "unsure", "(II)I"⟩
theorem d_Hare_unsure_0 : decode b_Hare_unsure 0 = .ok (.aload_n 0, 1) := by decide +kernel
theorem d_Hare_unsure_1 : decode b_Hare_unsure 1 = .ok (.getfield 19, 3) := by decide +kernel
theorem d_Hare_unsure_4 : decode b_Hare_unsure 4 = .ok (.iload_n 1, 1) := by decide +kernel
theorem d_Hare_unsure_5 : decode b_Hare_unsure 5 = .ok (.invokevirtual 114, 3) := by decide +kernel
theorem d_Hare_unsure_8 : decode b_Hare_unsure 8 = .ok (.ifCond .ne 5, 3) := by decide +kernel
theorem d_Hare_unsure_11 : decode b_Hare_unsure 11 = .ok (.iconst (-1), 1) := by decide +kernel
theorem d_Hare_unsure_12 : decode b_Hare_unsure 12 = .ok (.ireturn, 1) := by decide +kernel
theorem d_Hare_unsure_13 : decode b_Hare_unsure 13 = .ok (.iload_n 2, 1) := by decide +kernel
theorem d_Hare_unsure_14 : decode b_Hare_unsure 14 = .ok (.ifCond .eq 11, 3) := by decide +kernel
theorem d_Hare_unsure_17 : decode b_Hare_unsure 17 = .ok (.iload_n 2, 1) := by decide +kernel
theorem d_Hare_unsure_18 : decode b_Hare_unsure 18 = .ok (.iconst 1, 1) := by decide +kernel
theorem d_Hare_unsure_19 : decode b_Hare_unsure 19 = .ok (.if_icmp .eq 6, 3) := by decide +kernel
theorem d_Hare_unsure_22 : decode b_Hare_unsure 22 = .ok (.bipush (-2), 2) := by decide +kernel
theorem d_Hare_unsure_24 : decode b_Hare_unsure 24 = .ok (.ireturn, 1) := by decide +kernel
theorem d_Hare_unsure_25 : decode b_Hare_unsure 25 = .ok (.aload_n 0, 1) := by decide +kernel
theorem d_Hare_unsure_26 : decode b_Hare_unsure 26 = .ok (.getfield 19, 3) := by decide +kernel
theorem d_Hare_unsure_29 : decode b_Hare_unsure 29 = .ok (.getfield 117, 3) := by decide +kernel
theorem d_Hare_unsure_32 : decode b_Hare_unsure 32 = .ok (.iload_n 1, 1) := by decide +kernel
theorem d_Hare_unsure_33 : decode b_Hare_unsure 33 = .ok (.iaload, 1) := by decide +kernel
theorem d_Hare_unsure_34 : decode b_Hare_unsure 34 = .ok (.istore_n 3, 1) := by decide +kernel
theorem d_Hare_unsure_35 : decode b_Hare_unsure 35 = .ok (.iload_n 2, 1) := by decide +kernel
theorem d_Hare_unsure_36 : decode b_Hare_unsure 36 = .ok (.iload_n 3, 1) := by decide +kernel
theorem d_Hare_unsure_37 : decode b_Hare_unsure 37 = .ok (.if_icmp .le 18, 3) := by decide +kernel
theorem d_Hare_unsure_40 : decode b_Hare_unsure 40 = .ok (.aload_n 0, 1) := by decide +kernel
theorem d_Hare_unsure_41 : decode b_Hare_unsure 41 = .ok (.getfield 19, 3) := by decide +kernel
theorem d_Hare_unsure_44 : decode b_Hare_unsure 44 = .ok (.invokevirtual 120, 3) := by decide +kernel
theorem d_Hare_unsure_47 : decode b_Hare_unsure 47 = .ok (.bipush 6, 2) := by decide +kernel
theorem d_Hare_unsure_49 : decode b_Hare_unsure 49 = .ok (.if_icmp .lt 6, 3) := by decide +kernel
theorem d_Hare_unsure_52 : decode b_Hare_unsure 52 = .ok (.bipush (-4), 2) := by decide +kernel
theorem d_Hare_unsure_54 : decode b_Hare_unsure 54 = .ok (.ireturn, 1) := by decide +kernel
theorem d_Hare_unsure_55 : decode b_Hare_unsure 55 = .ok (.aload_n 0, 1) := by decide +kernel
theorem d_Hare_unsure_56 : decode b_Hare_unsure 56 = .ok (.getfield 19, 3) := by decide +kernel
theorem d_Hare_unsure_59 : decode b_Hare_unsure 59 = .ok (.getfield 117, 3) := by decide +kernel
theorem d_Hare_unsure_62 : decode b_Hare_unsure 62 = .ok (.iload_n 1, 1) := by decide +kernel
theorem d_Hare_unsure_63 : decode b_Hare_unsure 63 = .ok (.iload_n 2, 1) := by decide +kernel
theorem d_Hare_unsure_64 : decode b_Hare_unsure 64 = .ok (.iastore, 1) := by decide +kernel
theorem d_Hare_unsure_65 : decode b_Hare_unsure 65 = .ok (.iload_n 3, 1) := by decide +kernel
theorem d_Hare_unsure_66 : decode b_Hare_unsure 66 = .ok (.ireturn, 1) := by decide +kernel
theorem v_Hare_unsure : dk_Yv y_Hare_unsure b_Hare_unsure 4 (some .int) 2 := ⟨dk_in (List.mem_of_getElem? (i := 458) (by decide +kernel)) rfl, dk_in (List.mem_of_getElem? (i := 459) (by decide +kernel)) rfl, dk_in (List.mem_of_getElem? (i := 66) (by decide +kernel)) rfl, dk_in (List.mem_of_getElem? (i := 460) (by decide +kernel)) rfl, by decide +kernel, by decide +kernel, by decide +kernel⟩
abbrev rm_Hare_unsure : Room := { frames := 1, cells := 0, slots := 0, locals := 22 }
theorem f_Hare_117 : Cond.fieldLink R_Hare 117 (T_Diary 5).1 (T_Diary 5).2.1 (T_Diary 5).2.2.1 ∈ dk_tb := dk_in (List.mem_of_getElem? (i := 148) (by decide +kernel)) rfl
theorem m_Hare_114 : Cond.methodLink R_Hare 114 y_Diary_has ∈ dk_tb := dk_in (List.mem_of_getElem? (i := 461) (by decide +kernel)) rfl
theorem m_Hare_120 : Cond.methodLink R_Hare 120 y_Diary_countUnsure ∈ dk_tb := dk_in (List.mem_of_getElem? (i := 465) (by decide +kernel)) rfl
def B_Hare_unsure_55 (n T : Nat)  (x1 : Int32) (x2 : Int32) (x3 : Int32) (S : dk_S) : Option (Int32 × dk_S) :=
  dk_w S 11 32 x1 x2 fun S1 => some (x3, S1)
set_option maxRecDepth 20000 in
theorem kb_Hare_unsure_55 {p : Program} {l : Launch} {e : Env} {s : State} {m : MethodId} {args : Array Value} {below : List Frame} {meth : Method} {c : Code} {g : dk_G} {A : Nat → Prop} {Q : State → Prop} {ad : Nat → Nat} {T : Nat} {n : Nat} {res : (Int32 × dk_S)} (X : dk_X p s m args meth c b_Hare_unsure 4 R_Hare (some .int) g A) (hR : dk_Ri p l e rm_Hare_unsure s m args below meth c g A Q 4 b_Hare_unsure (some .int) (wC g ad T) res)  {x1 : Int32} {x2 : Int32} {x3 : Int32} {S : dk_S}  (hF : B_Hare_unsure_55 n T  x1 x2 x3 S = some res) : dk_J p l e rm_Hare_unsure s m args below meth c g A Q 4 0 0 55 [(0, .ref (ad 0)), (1, .int x1), (2, .int x2), (3, .int x3)] [] (wC g ad T S) := by
  unfold B_Hare_unsure_55 at hF
  refine dk_aload_n (k := 0) (i := 0) X 0 rfl rfl d_Hare_unsure_55 ?_
  refine dk_get X q_Hare 0 1 (by decide) (oC_Hare g ad T S) rfl f_Hare_19 d_Hare_unsure_56 ?_
  refine dk_get X q_Diary 5 5 (by decide) (oC_Diary g ad T S) rfl f_Hare_117 d_Hare_unsure_59 ?_
  refine dk_iload_n (k := 1) (i := 1) X 1 rfl rfl d_Hare_unsure_62 ?_
  refine dk_iload_n (k := 2) (i := 2) X 2 rfl rfl d_Hare_unsure_63 ?_
  refine dk_iast X 11 (aC_11 g ad T S) (sC_11 g ad T S _ _) d_Hare_unsure_64 hF (fun S1 hF => ?_)
  refine dk_iload_n (k := 3) (i := 3) X 3 rfl rfl d_Hare_unsure_65 ?_
  exact dk_reti hR hF d_Hare_unsure_66
def B_Hare_unsure_25 (n T : Nat)  (x1 : Int32) (x2 : Int32) (S : dk_S) : Option (Int32 × dk_S) :=
  dk_r 32 (S 11) x1 fun v2 => if x2 ≤ v2 then (B_Hare_unsure_55 n T  x1 x2 v2 S) else (dk_c (F_Diary_countUnsure n T S) fun r4 S3 => if r4 < (6 : Int32) then (B_Hare_unsure_55 n T  x1 x2 v2 S3) else (some ((-4 : Int32), S3)))
set_option maxRecDepth 20000 in
theorem kb_Hare_unsure_25 {p : Program} {l : Launch} {e : Env} {s : State} {m : MethodId} {args : Array Value} {below : List Frame} {meth : Method} {c : Code} {g : dk_G} {A : Nat → Prop} {Q : State → Prop} {ad : Nat → Nat} {T : Nat} {n : Nat} {res : (Int32 × dk_S)} (X : dk_X p s m args meth c b_Hare_unsure 4 R_Hare (some .int) g A) (hR : dk_Ri p l e rm_Hare_unsure s m args below meth c g A Q 4 b_Hare_unsure (some .int) (wC g ad T) res)  {x1 : Int32} {x2 : Int32} {S : dk_S}  (hF : B_Hare_unsure_25 n T  x1 x2 S = some res) : dk_J p l e rm_Hare_unsure s m args below meth c g A Q 4 0 0 25 [(0, .ref (ad 0)), (1, .int x1), (2, .int x2)] [] (wC g ad T S) := by
  unfold B_Hare_unsure_25 at hF
  refine dk_aload_n (k := 0) (i := 0) X 0 rfl rfl d_Hare_unsure_25 ?_
  refine dk_get X q_Hare 0 1 (by decide) (oC_Hare g ad T S) rfl f_Hare_19 d_Hare_unsure_26 ?_
  refine dk_get X q_Diary 5 5 (by decide) (oC_Diary g ad T S) rfl f_Hare_117 d_Hare_unsure_29 ?_
  refine dk_iload_n (k := 1) (i := 1) X 1 rfl rfl d_Hare_unsure_32 ?_
  refine dk_iald X 11 (aC_11 g ad T S) d_Hare_unsure_33 hF (fun v2 hF => ?_)
  refine dk_istore_n (k := 3) (i := 3) (lv' := [(3, .int v2), (0, .ref (ad 0)), (1, .int x1), (2, .int x2)]) X rfl (by decide) rfl d_Hare_unsure_34 ?_
  refine dk_iload_n (k := 2) (i := 2) X 3 rfl rfl d_Hare_unsure_35 ?_
  refine dk_iload_n (k := 3) (i := 3) X 0 rfl rfl d_Hare_unsure_36 ?_
  refine dk_icmp_le (tgt := 55) X (by decide) d_Hare_unsure_37 hF (fun hF => ?_) (fun hF => ?_)
  · exact dk_sub [1, 2, 3, 0] rfl (kb_Hare_unsure_55 (n := n) X hR   hF)
  · refine dk_aload_n (k := 0) (i := 0) X 1 rfl rfl d_Hare_unsure_40 ?_
    refine dk_get X q_Hare 0 1 (by decide) (oC_Hare g ad T S) rfl f_Hare_19 d_Hare_unsure_41 ?_
    refine dk_callVi X v_Diary_countUnsure [] (c_Diary_countUnsure l g ad T n S) 5 (oC_Diary g ad T S) rfl rfl m_Hare_120 rfl rfl ⟨rfl, rfl, Nat.le_of_ble_eq_true rfl, Nat.le_of_ble_eq_true rfl, Nat.le_refl _, Nat.le_refl _⟩ (Nat.le_of_ble_eq_true rfl) d_Hare_unsure_44 hF (fun r4 S3 hF => ?_)
    refine dk_bipush (v := 6) X (by decide) d_Hare_unsure_47 ?_
    refine dk_icmp_lt (tgt := 55) X (by decide) d_Hare_unsure_49 hF (fun hF => ?_) (fun hF => ?_)
    · exact dk_sub [1, 2, 3, 0] rfl (kb_Hare_unsure_55 (n := n) X hR   hF)
    · refine dk_bipush (v := -4) X (by decide) d_Hare_unsure_52 ?_
      exact dk_reti hR hF d_Hare_unsure_54
def B_Hare_unsure_0 (n T : Nat)  (x1 : Int32) (x2 : Int32) (S : dk_S) : Option (Int32 × dk_S) :=
  dk_c (F_Diary_has n T x1 S) fun r6 S5 => if ¬ r6 = 0 then (if x2 = 0 then (B_Hare_unsure_25 n T  x1 x2 S5) else (if x2 = (1 : Int32) then (B_Hare_unsure_25 n T  x1 x2 S5) else (some ((-2 : Int32), S5)))) else (some ((-1 : Int32), S5))
set_option maxRecDepth 20000 in
theorem kb_Hare_unsure_0 {p : Program} {l : Launch} {e : Env} {s : State} {m : MethodId} {args : Array Value} {below : List Frame} {meth : Method} {c : Code} {g : dk_G} {A : Nat → Prop} {Q : State → Prop} {ad : Nat → Nat} {T : Nat} {n : Nat} {res : (Int32 × dk_S)} (X : dk_X p s m args meth c b_Hare_unsure 4 R_Hare (some .int) g A) (hR : dk_Ri p l e rm_Hare_unsure s m args below meth c g A Q 4 b_Hare_unsure (some .int) (wC g ad T) res)  {x1 : Int32} {x2 : Int32} {S : dk_S}  (hF : B_Hare_unsure_0 n T  x1 x2 S = some res) : dk_J p l e rm_Hare_unsure s m args below meth c g A Q 4 0 0 0 [(0, .ref (ad 0)), (1, .int x1), (2, .int x2)] [] (wC g ad T S) := by
  unfold B_Hare_unsure_0 at hF
  refine dk_aload_n (k := 0) (i := 0) X 0 rfl rfl d_Hare_unsure_0 ?_
  refine dk_get X q_Hare 0 1 (by decide) (oC_Hare g ad T S) rfl f_Hare_19 d_Hare_unsure_1 ?_
  refine dk_iload_n (k := 1) (i := 1) X 1 rfl rfl d_Hare_unsure_4 ?_
  refine dk_callVi X v_Diary_has [.int x1] (c_Diary_has l g ad T n x1 S) 5 (oC_Diary g ad T S) rfl rfl m_Hare_114 rfl rfl ⟨rfl, rfl, Nat.le_of_ble_eq_true rfl, Nat.le_of_ble_eq_true rfl, Nat.le_refl _, Nat.le_refl _⟩ (Nat.le_of_ble_eq_true rfl) d_Hare_unsure_5 hF (fun r6 S5 hF => ?_)
  refine dk_if_ne (tgt := 13) X (by decide) d_Hare_unsure_8 hF (fun hF => ?_) (fun hF => ?_)
  · refine dk_iload_n (k := 2) (i := 2) X 2 rfl rfl d_Hare_unsure_13 ?_
    refine dk_if_eq (tgt := 25) X (by decide) d_Hare_unsure_14 hF (fun hF => ?_) (fun hF => ?_)
    · exact (kb_Hare_unsure_25 (n := n) X hR   hF)
    · refine dk_iload_n (k := 2) (i := 2) X 2 rfl rfl d_Hare_unsure_17 ?_
      refine dk_iconst (v := 1) X (by decide) d_Hare_unsure_18 ?_
      refine dk_icmp_eq (tgt := 25) X (by decide) d_Hare_unsure_19 hF (fun hF => ?_) (fun hF => ?_)
      · exact (kb_Hare_unsure_25 (n := n) X hR   hF)
      · refine dk_bipush (v := -2) X (by decide) d_Hare_unsure_22 ?_
        exact dk_reti hR hF d_Hare_unsure_24
  · refine dk_iconst (v := -1) X (by decide) d_Hare_unsure_11 ?_
    exact dk_reti hR hF d_Hare_unsure_12
def F_Hare_unsure (n T : Nat) (x1 : Int32) (x2 : Int32) (S : dk_S) : Option (Int32 × dk_S) := B_Hare_unsure_0 n T x1 x2 S
theorem c_Hare_unsure (l : Launch) (g : dk_G) (ad : Nat → Nat) (T n : Nat) (x1 : Int32) (x2 : Int32)  (S : dk_S) : dk_Mi l g y_Hare_unsure b_Hare_unsure 4 rm_Hare_unsure (some .int) [.ref (ad 0), .int x1, .int x2] (wC g ad T) S (F_Hare_unsure n T x1 x2 S) := dk_enteri (by decide) (Nat.le_of_ble_eq_true rfl) (fun p e s m args below meth c A Q res hF X hR => (kb_Hare_unsure_0 (n := n) X hR  hF))
abbrev b_Hare_momentTold : ByteArray := prog_1_method_8_code
def y_Hare_momentTold : MethodName := ⟨R_Hare, "momentTold", "(II)I"⟩
theorem d_Hare_momentTold_0 : decode b_Hare_momentTold 0 = .ok (.aload_n 0, 1) := by decide +kernel
theorem d_Hare_momentTold_1 : decode b_Hare_momentTold 1 = .ok (.getfield 19, 3) := by decide +kernel
theorem d_Hare_momentTold_4 : decode b_Hare_momentTold 4 = .ok (.iload_n 1, 1) := by decide +kernel
theorem d_Hare_momentTold_5 : decode b_Hare_momentTold 5 = .ok (.invokevirtual 114, 3) := by decide +kernel
theorem d_Hare_momentTold_8 : decode b_Hare_momentTold 8 = .ok (.ifCond .ne 6, 3) := by decide +kernel
theorem d_Hare_momentTold_11 : decode b_Hare_momentTold 11 = .ok (.bipush (-5), 2) := by decide +kernel
theorem d_Hare_momentTold_13 : decode b_Hare_momentTold 13 = .ok (.ireturn, 1) := by decide +kernel
theorem d_Hare_momentTold_14 : decode b_Hare_momentTold 14 = .ok (.iload_n 2, 1) := by decide +kernel
theorem d_Hare_momentTold_15 : decode b_Hare_momentTold 15 = .ok (.tableswitch 97 0 5 #[37, 47, 57, 67, 77, 87], 37) := by decide +kernel
theorem d_Hare_momentTold_52 : decode b_Hare_momentTold 52 = .ok (.aload_n 0, 1) := by decide +kernel
theorem d_Hare_momentTold_53 : decode b_Hare_momentTold 53 = .ok (.getfield 19, 3) := by decide +kernel
theorem d_Hare_momentTold_56 : decode b_Hare_momentTold 56 = .ok (.getfield 123, 3) := by decide +kernel
theorem d_Hare_momentTold_59 : decode b_Hare_momentTold 59 = .ok (.iload_n 1, 1) := by decide +kernel
theorem d_Hare_momentTold_60 : decode b_Hare_momentTold 60 = .ok (.iaload, 1) := by decide +kernel
theorem d_Hare_momentTold_61 : decode b_Hare_momentTold 61 = .ok (.ireturn, 1) := by decide +kernel
theorem d_Hare_momentTold_62 : decode b_Hare_momentTold 62 = .ok (.aload_n 0, 1) := by decide +kernel
theorem d_Hare_momentTold_63 : decode b_Hare_momentTold 63 = .ok (.getfield 19, 3) := by decide +kernel
theorem d_Hare_momentTold_66 : decode b_Hare_momentTold 66 = .ok (.getfield 126, 3) := by decide +kernel
theorem d_Hare_momentTold_69 : decode b_Hare_momentTold 69 = .ok (.iload_n 1, 1) := by decide +kernel
theorem d_Hare_momentTold_70 : decode b_Hare_momentTold 70 = .ok (.iaload, 1) := by decide +kernel
theorem d_Hare_momentTold_71 : decode b_Hare_momentTold 71 = .ok (.ireturn, 1) := by decide +kernel
theorem d_Hare_momentTold_72 : decode b_Hare_momentTold 72 = .ok (.aload_n 0, 1) := by decide +kernel
theorem d_Hare_momentTold_73 : decode b_Hare_momentTold 73 = .ok (.getfield 19, 3) := by decide +kernel
theorem d_Hare_momentTold_76 : decode b_Hare_momentTold 76 = .ok (.getfield 129, 3) := by decide +kernel
theorem d_Hare_momentTold_79 : decode b_Hare_momentTold 79 = .ok (.iload_n 1, 1) := by decide +kernel
theorem d_Hare_momentTold_80 : decode b_Hare_momentTold 80 = .ok (.iaload, 1) := by decide +kernel
theorem d_Hare_momentTold_81 : decode b_Hare_momentTold 81 = .ok (.ireturn, 1) := by decide +kernel
theorem d_Hare_momentTold_82 : decode b_Hare_momentTold 82 = .ok (.aload_n 0, 1) := by decide +kernel
theorem d_Hare_momentTold_83 : decode b_Hare_momentTold 83 = .ok (.getfield 19, 3) := by decide +kernel
theorem d_Hare_momentTold_86 : decode b_Hare_momentTold 86 = .ok (.getfield 132, 3) := by decide +kernel
theorem d_Hare_momentTold_89 : decode b_Hare_momentTold 89 = .ok (.iload_n 1, 1) := by decide +kernel
theorem d_Hare_momentTold_90 : decode b_Hare_momentTold 90 = .ok (.iaload, 1) := by decide +kernel
theorem d_Hare_momentTold_91 : decode b_Hare_momentTold 91 = .ok (.ireturn, 1) := by decide +kernel
theorem d_Hare_momentTold_92 : decode b_Hare_momentTold 92 = .ok (.aload_n 0, 1) := by decide +kernel
theorem d_Hare_momentTold_93 : decode b_Hare_momentTold 93 = .ok (.getfield 19, 3) := by decide +kernel
theorem d_Hare_momentTold_96 : decode b_Hare_momentTold 96 = .ok (.getfield 135, 3) := by decide +kernel
theorem d_Hare_momentTold_99 : decode b_Hare_momentTold 99 = .ok (.iload_n 1, 1) := by decide +kernel
theorem d_Hare_momentTold_100 : decode b_Hare_momentTold 100 = .ok (.iaload, 1) := by decide +kernel
theorem d_Hare_momentTold_101 : decode b_Hare_momentTold 101 = .ok (.ireturn, 1) := by decide +kernel
theorem d_Hare_momentTold_102 : decode b_Hare_momentTold 102 = .ok (.aload_n 0, 1) := by decide +kernel
theorem d_Hare_momentTold_103 : decode b_Hare_momentTold 103 = .ok (.getfield 19, 3) := by decide +kernel
theorem d_Hare_momentTold_106 : decode b_Hare_momentTold 106 = .ok (.getfield 117, 3) := by decide +kernel
theorem d_Hare_momentTold_109 : decode b_Hare_momentTold 109 = .ok (.iload_n 1, 1) := by decide +kernel
theorem d_Hare_momentTold_110 : decode b_Hare_momentTold 110 = .ok (.iaload, 1) := by decide +kernel
theorem d_Hare_momentTold_111 : decode b_Hare_momentTold 111 = .ok (.ireturn, 1) := by decide +kernel
theorem d_Hare_momentTold_112 : decode b_Hare_momentTold 112 = .ok (.bipush (-7), 2) := by decide +kernel
theorem d_Hare_momentTold_114 : decode b_Hare_momentTold 114 = .ok (.ireturn, 1) := by decide +kernel
theorem v_Hare_momentTold : dk_Yv y_Hare_momentTold b_Hare_momentTold 3 (some .int) 2 := ⟨dk_in (List.mem_of_getElem? (i := 470) (by decide +kernel)) rfl, dk_in (List.mem_of_getElem? (i := 471) (by decide +kernel)) rfl, dk_in (List.mem_of_getElem? (i := 66) (by decide +kernel)) rfl, dk_in (List.mem_of_getElem? (i := 472) (by decide +kernel)) rfl, by decide +kernel, by decide +kernel, by decide +kernel⟩
abbrev rm_Hare_momentTold : Room := { frames := 1, cells := 0, slots := 0, locals := 21 }
theorem f_Hare_123 : Cond.fieldLink R_Hare 123 (T_Diary 0).1 (T_Diary 0).2.1 (T_Diary 0).2.2.1 ∈ dk_tb := dk_in (List.mem_of_getElem? (i := 132) (by decide +kernel)) rfl
theorem f_Hare_126 : Cond.fieldLink R_Hare 126 (T_Diary 1).1 (T_Diary 1).2.1 (T_Diary 1).2.2.1 ∈ dk_tb := dk_in (List.mem_of_getElem? (i := 135) (by decide +kernel)) rfl
theorem f_Hare_129 : Cond.fieldLink R_Hare 129 (T_Diary 2).1 (T_Diary 2).2.1 (T_Diary 2).2.2.1 ∈ dk_tb := dk_in (List.mem_of_getElem? (i := 138) (by decide +kernel)) rfl
theorem f_Hare_132 : Cond.fieldLink R_Hare 132 (T_Diary 3).1 (T_Diary 3).2.1 (T_Diary 3).2.2.1 ∈ dk_tb := dk_in (List.mem_of_getElem? (i := 141) (by decide +kernel)) rfl
theorem f_Hare_135 : Cond.fieldLink R_Hare 135 (T_Diary 4).1 (T_Diary 4).2.1 (T_Diary 4).2.2.1 ∈ dk_tb := dk_in (List.mem_of_getElem? (i := 144) (by decide +kernel)) rfl
def B_Hare_momentTold_0 (n T : Nat)  (x1 : Int32) (x2 : Int32) (S : dk_S) : Option (Int32 × dk_S) :=
  dk_c (F_Diary_has n T x1 S) fun r2 S1 => if ¬ r2 = 0 then (if x2 = (0 : Int32) then (dk_r 32 (S1 6) x1 fun v3 => some (v3, S1)) else (if x2 = (1 : Int32) then (dk_r 32 (S1 7) x1 fun v4 => some (v4, S1)) else (if x2 = (2 : Int32) then (dk_r 32 (S1 8) x1 fun v5 => some (v5, S1)) else (if x2 = (3 : Int32) then (dk_r 32 (S1 9) x1 fun v6 => some (v6, S1)) else (if x2 = (4 : Int32) then (dk_r 32 (S1 10) x1 fun v7 => some (v7, S1)) else (if x2 = (5 : Int32) then (dk_r 32 (S1 11) x1 fun v8 => some (v8, S1)) else (some ((-7 : Int32), S1)))))))) else (some ((-5 : Int32), S1))
set_option maxRecDepth 20000 in
theorem kb_Hare_momentTold_0 {p : Program} {l : Launch} {e : Env} {s : State} {m : MethodId} {args : Array Value} {below : List Frame} {meth : Method} {c : Code} {g : dk_G} {A : Nat → Prop} {Q : State → Prop} {ad : Nat → Nat} {T : Nat} {n : Nat} {res : (Int32 × dk_S)} (X : dk_X p s m args meth c b_Hare_momentTold 3 R_Hare (some .int) g A) (hR : dk_Ri p l e rm_Hare_momentTold s m args below meth c g A Q 3 b_Hare_momentTold (some .int) (wC g ad T) res)  {x1 : Int32} {x2 : Int32} {S : dk_S}  (hF : B_Hare_momentTold_0 n T  x1 x2 S = some res) : dk_J p l e rm_Hare_momentTold s m args below meth c g A Q 3 0 0 0 [(0, .ref (ad 0)), (1, .int x1), (2, .int x2)] [] (wC g ad T S) := by
  unfold B_Hare_momentTold_0 at hF
  refine dk_aload_n (k := 0) (i := 0) X 0 rfl rfl d_Hare_momentTold_0 ?_
  refine dk_get X q_Hare 0 1 (by decide) (oC_Hare g ad T S) rfl f_Hare_19 d_Hare_momentTold_1 ?_
  refine dk_iload_n (k := 1) (i := 1) X 1 rfl rfl d_Hare_momentTold_4 ?_
  refine dk_callVi X v_Diary_has [.int x1] (c_Diary_has l g ad T n x1 S) 5 (oC_Diary g ad T S) rfl rfl m_Hare_114 rfl rfl ⟨rfl, rfl, Nat.le_of_ble_eq_true rfl, Nat.le_of_ble_eq_true rfl, Nat.le_refl _, Nat.le_refl _⟩ (Nat.le_of_ble_eq_true rfl) d_Hare_momentTold_5 hF (fun r2 S1 hF => ?_)
  refine dk_if_ne (tgt := 14) X (by decide) d_Hare_momentTold_8 hF (fun hF => ?_) (fun hF => ?_)
  · refine dk_iload_n (k := 2) (i := 2) X 2 rfl rfl d_Hare_momentTold_14 ?_
    refine dk_if hF (fun hc0 hF => ?_) (fun hc0 hF => ?_)
    · refine dk_tsIn (v := 0) (tgt := 52) X d_Hare_momentTold_15 (by rw [hc0]; decide) (by decide) (by decide) rfl (by decide) ?_
      refine dk_aload_n (k := 0) (i := 0) X 0 rfl rfl d_Hare_momentTold_52 ?_
      refine dk_get X q_Hare 0 1 (by decide) (oC_Hare g ad T S1) rfl f_Hare_19 d_Hare_momentTold_53 ?_
      refine dk_get X q_Diary 5 0 (by decide) (oC_Diary g ad T S1) rfl f_Hare_123 d_Hare_momentTold_56 ?_
      refine dk_iload_n (k := 1) (i := 1) X 1 rfl rfl d_Hare_momentTold_59 ?_
      refine dk_iald X 6 (aC_6 g ad T S1) d_Hare_momentTold_60 hF (fun v3 hF => ?_)
      exact dk_reti hR hF d_Hare_momentTold_61
    · refine dk_if hF (fun hc1 hF => ?_) (fun hc1 hF => ?_)
      · refine dk_tsIn (v := 1) (tgt := 62) X d_Hare_momentTold_15 (by rw [hc1]; decide) (by decide) (by decide) rfl (by decide) ?_
        refine dk_aload_n (k := 0) (i := 0) X 0 rfl rfl d_Hare_momentTold_62 ?_
        refine dk_get X q_Hare 0 1 (by decide) (oC_Hare g ad T S1) rfl f_Hare_19 d_Hare_momentTold_63 ?_
        refine dk_get X q_Diary 5 1 (by decide) (oC_Diary g ad T S1) rfl f_Hare_126 d_Hare_momentTold_66 ?_
        refine dk_iload_n (k := 1) (i := 1) X 1 rfl rfl d_Hare_momentTold_69 ?_
        refine dk_iald X 7 (aC_7 g ad T S1) d_Hare_momentTold_70 hF (fun v4 hF => ?_)
        exact dk_reti hR hF d_Hare_momentTold_71
      · refine dk_if hF (fun hc2 hF => ?_) (fun hc2 hF => ?_)
        · refine dk_tsIn (v := 2) (tgt := 72) X d_Hare_momentTold_15 (by rw [hc2]; decide) (by decide) (by decide) rfl (by decide) ?_
          refine dk_aload_n (k := 0) (i := 0) X 0 rfl rfl d_Hare_momentTold_72 ?_
          refine dk_get X q_Hare 0 1 (by decide) (oC_Hare g ad T S1) rfl f_Hare_19 d_Hare_momentTold_73 ?_
          refine dk_get X q_Diary 5 2 (by decide) (oC_Diary g ad T S1) rfl f_Hare_129 d_Hare_momentTold_76 ?_
          refine dk_iload_n (k := 1) (i := 1) X 1 rfl rfl d_Hare_momentTold_79 ?_
          refine dk_iald X 8 (aC_8 g ad T S1) d_Hare_momentTold_80 hF (fun v5 hF => ?_)
          exact dk_reti hR hF d_Hare_momentTold_81
        · refine dk_if hF (fun hc3 hF => ?_) (fun hc3 hF => ?_)
          · refine dk_tsIn (v := 3) (tgt := 82) X d_Hare_momentTold_15 (by rw [hc3]; decide) (by decide) (by decide) rfl (by decide) ?_
            refine dk_aload_n (k := 0) (i := 0) X 0 rfl rfl d_Hare_momentTold_82 ?_
            refine dk_get X q_Hare 0 1 (by decide) (oC_Hare g ad T S1) rfl f_Hare_19 d_Hare_momentTold_83 ?_
            refine dk_get X q_Diary 5 3 (by decide) (oC_Diary g ad T S1) rfl f_Hare_132 d_Hare_momentTold_86 ?_
            refine dk_iload_n (k := 1) (i := 1) X 1 rfl rfl d_Hare_momentTold_89 ?_
            refine dk_iald X 9 (aC_9 g ad T S1) d_Hare_momentTold_90 hF (fun v6 hF => ?_)
            exact dk_reti hR hF d_Hare_momentTold_91
          · refine dk_if hF (fun hc4 hF => ?_) (fun hc4 hF => ?_)
            · refine dk_tsIn (v := 4) (tgt := 92) X d_Hare_momentTold_15 (by rw [hc4]; decide) (by decide) (by decide) rfl (by decide) ?_
              refine dk_aload_n (k := 0) (i := 0) X 0 rfl rfl d_Hare_momentTold_92 ?_
              refine dk_get X q_Hare 0 1 (by decide) (oC_Hare g ad T S1) rfl f_Hare_19 d_Hare_momentTold_93 ?_
              refine dk_get X q_Diary 5 4 (by decide) (oC_Diary g ad T S1) rfl f_Hare_135 d_Hare_momentTold_96 ?_
              refine dk_iload_n (k := 1) (i := 1) X 1 rfl rfl d_Hare_momentTold_99 ?_
              refine dk_iald X 10 (aC_10 g ad T S1) d_Hare_momentTold_100 hF (fun v7 hF => ?_)
              exact dk_reti hR hF d_Hare_momentTold_101
            · refine dk_if hF (fun hc5 hF => ?_) (fun hc5 hF => ?_)
              · refine dk_tsIn (v := 5) (tgt := 102) X d_Hare_momentTold_15 (by rw [hc5]; decide) (by decide) (by decide) rfl (by decide) ?_
                refine dk_aload_n (k := 0) (i := 0) X 0 rfl rfl d_Hare_momentTold_102 ?_
                refine dk_get X q_Hare 0 1 (by decide) (oC_Hare g ad T S1) rfl f_Hare_19 d_Hare_momentTold_103 ?_
                refine dk_get X q_Diary 5 5 (by decide) (oC_Diary g ad T S1) rfl f_Hare_117 d_Hare_momentTold_106 ?_
                refine dk_iload_n (k := 1) (i := 1) X 1 rfl rfl d_Hare_momentTold_109 ?_
                refine dk_iald X 11 (aC_11 g ad T S1) d_Hare_momentTold_110 hF (fun v8 hF => ?_)
                exact dk_reti hR hF d_Hare_momentTold_111
              · refine dk_tsOut (tgt := 112) X d_Hare_momentTold_15 (by have e0 := lv_neT hc0 (a := 0) (by decide); have e1 := lv_neT hc1 (a := 1) (by decide); have e2 := lv_neT hc2 (a := 2) (by decide); have e3 := lv_neT hc3 (a := 3) (by decide); have e4 := lv_neT hc4 (a := 4) (by decide); have e5 := lv_neT hc5 (a := 5) (by decide); omega) (by decide) ?_
                refine dk_bipush (v := -7) X (by decide) d_Hare_momentTold_112 ?_
                exact dk_reti hR hF d_Hare_momentTold_114
  · refine dk_bipush (v := -5) X (by decide) d_Hare_momentTold_11 ?_
    exact dk_reti hR hF d_Hare_momentTold_13
def F_Hare_momentTold (n T : Nat) (x1 : Int32) (x2 : Int32) (S : dk_S) : Option (Int32 × dk_S) := B_Hare_momentTold_0 n T x1 x2 S
theorem c_Hare_momentTold (l : Launch) (g : dk_G) (ad : Nat → Nat) (T n : Nat) (x1 : Int32) (x2 : Int32)  (S : dk_S) : dk_Mi l g y_Hare_momentTold b_Hare_momentTold 3 rm_Hare_momentTold (some .int) [.ref (ad 0), .int x1, .int x2] (wC g ad T) S (F_Hare_momentTold n T x1 x2 S) := dk_enteri (by decide) (Nat.le_of_ble_eq_true rfl) (fun p e s m args below meth c A Q res hF X hR => (kb_Hare_momentTold_0 (n := n) X hR  hF))
abbrev b_Hare_useText : ByteArray := prog_1_method_36_code
def y_Hare_useText : MethodName := ⟨R_Hare, "useText", "(I)V"⟩
theorem d_Hare_useText_0 : decode b_Hare_useText 0 = .ok (.iload_n 1, 1) := by decide +kernel
theorem d_Hare_useText_1 : decode b_Hare_useText 1 = .ok (.ifCond .lt 33, 3) := by decide +kernel
theorem d_Hare_useText_4 : decode b_Hare_useText 4 = .ok (.iload_n 1, 1) := by decide +kernel
theorem d_Hare_useText_5 : decode b_Hare_useText 5 = .ok (.aload_n 0, 1) := by decide +kernel
theorem d_Hare_useText_6 : decode b_Hare_useText 6 = .ok (.getfield 57, 3) := by decide +kernel
theorem d_Hare_useText_9 : decode b_Hare_useText 9 = .ok (.if_icmp .ge 25, 3) := by decide +kernel
theorem d_Hare_useText_12 : decode b_Hare_useText 12 = .ok (.aload_n 0, 1) := by decide +kernel
theorem d_Hare_useText_13 : decode b_Hare_useText 13 = .ok (.getfield 53, 3) := by decide +kernel
theorem d_Hare_useText_16 : decode b_Hare_useText 16 = .ok (.iload_n 1, 1) := by decide +kernel
theorem d_Hare_useText_17 : decode b_Hare_useText 17 = .ok (.aaload, 1) := by decide +kernel
theorem d_Hare_useText_18 : decode b_Hare_useText 18 = .ok (.ifnull 16, 3) := by decide +kernel
theorem d_Hare_useText_21 : decode b_Hare_useText 21 = .ok (.aload_n 0, 1) := by decide +kernel
theorem d_Hare_useText_22 : decode b_Hare_useText 22 = .ok (.getfield 40, 3) := by decide +kernel
theorem d_Hare_useText_25 : decode b_Hare_useText 25 = .ok (.aload_n 0, 1) := by decide +kernel
theorem d_Hare_useText_26 : decode b_Hare_useText 26 = .ok (.getfield 53, 3) := by decide +kernel
theorem d_Hare_useText_29 : decode b_Hare_useText 29 = .ok (.iload_n 1, 1) := by decide +kernel
theorem d_Hare_useText_30 : decode b_Hare_useText 30 = .ok (.aaload, 1) := by decide +kernel
theorem d_Hare_useText_31 : decode b_Hare_useText 31 = .ok (.putfield 307, 3) := by decide +kernel
theorem d_Hare_useText_34 : decode b_Hare_useText 34 = .ok (.return_, 1) := by decide +kernel
theorem v_Hare_useText : dk_Yv y_Hare_useText b_Hare_useText 2 (none) 1 := ⟨dk_in (List.mem_of_getElem? (i := 645) (by decide +kernel)) rfl, dk_in (List.mem_of_getElem? (i := 16) (by decide +kernel)) rfl, dk_in (List.mem_of_getElem? (i := 66) (by decide +kernel)) rfl, dk_in (List.mem_of_getElem? (i := 646) (by decide +kernel)) rfl, by decide +kernel, by decide +kernel, by decide +kernel⟩
abbrev rm_Hare_useText : Room := { frames := 0, cells := 0, slots := 0, locals := 0 }
theorem f_Hare_307 : Cond.fieldLink R_Hare 307 (T_Scales 2).1 (T_Scales 2).2.1 (T_Scales 2).2.2.1 ∈ dk_tb := dk_in (List.mem_of_getElem? (i := 236) (by decide +kernel)) rfl
theorem f_Hare_40 : Cond.fieldLink R_Hare 40 (T_Hare 3).1 (T_Hare 3).2.1 (T_Hare 3).2.2.1 ∈ dk_tb := dk_in (List.mem_of_getElem? (i := 375) (by decide +kernel)) rfl
theorem f_Hare_53 : Cond.fieldLink R_Hare 53 (T_Hare 5).1 (T_Hare 5).2.1 (T_Hare 5).2.2.1 ∈ dk_tb := dk_in (List.mem_of_getElem? (i := 377) (by decide +kernel)) rfl
theorem f_Hare_57 : Cond.fieldLink R_Hare 57 (T_Hare 8).1 (T_Hare 8).2.1 (T_Hare 8).2.2.1 ∈ dk_tb := dk_in (List.mem_of_getElem? (i := 380) (by decide +kernel)) rfl
def B_Hare_useText_0 (n T : Nat)  (x1 : Int32) (S : dk_S) : Option dk_S :=
  if x1 < 0 then (some S) else (if (S 100 0) ≤ x1 then (some S) else (dk_tx T x1 fun t1 => dk_tx T x1 fun t2 => dk_p S 114 (nI t2) fun S3 => some S3))
set_option maxRecDepth 20000 in
theorem kb_Hare_useText_0 {p : Program} {l : Launch} {e : Env} {s : State} {m : MethodId} {args : Array Value} {below : List Frame} {meth : Method} {c : Code} {g : dk_G} {A : Nat → Prop} {Q : State → Prop} {ad : Nat → Nat} {T : Nat} {n : Nat} {res : dk_S} (X : dk_X p s m args meth c b_Hare_useText 2 R_Hare (none) g A) (hR : dk_Rv p l e rm_Hare_useText s m args below meth c g A Q 2 b_Hare_useText (none) (wC g ad T) res)  {x1 : Int32} {S : dk_S}  (hF : B_Hare_useText_0 n T  x1 S = some res) : dk_J p l e rm_Hare_useText s m args below meth c g A Q 2 0 0 0 [(0, .ref (ad 0)), (1, .int x1)] [] (wC g ad T S) := by
  unfold B_Hare_useText_0 at hF
  refine dk_iload_n (k := 1) (i := 1) X 1 rfl rfl d_Hare_useText_0 ?_
  refine dk_if_lt (tgt := 34) X (by decide) d_Hare_useText_1 hF (fun hF => ?_) (fun hF => ?_)
  · exact dk_retv hR hF d_Hare_useText_34
  · refine dk_iload_n (k := 1) (i := 1) X 1 rfl rfl d_Hare_useText_4 ?_
    refine dk_aload_n (k := 0) (i := 0) X 0 rfl rfl d_Hare_useText_5 ?_
    refine dk_get X q_Hare 0 8 (by decide) (oC_Hare g ad T S) rfl f_Hare_57 d_Hare_useText_6 ?_
    refine dk_icmp_ge (tgt := 34) X (by decide) d_Hare_useText_9 hF (fun hF => ?_) (fun hF => ?_)
    · exact dk_retv hR hF d_Hare_useText_34
    · refine dk_aload_n (k := 0) (i := 0) X 0 rfl rfl d_Hare_useText_12 ?_
      refine dk_get X q_Hare 0 5 (by decide) (oC_Hare g ad T S) rfl f_Hare_53 d_Hare_useText_13 ?_
      refine dk_iload_n (k := 1) (i := 1) X 1 rfl rfl d_Hare_useText_16 ?_
      refine dk_txld X d_Hare_useText_17 hF (fun t1 ht1 ht16 hF => ?_)
      refine dk_ifnull X d_Hare_useText_18 ?_
      refine dk_aload_n (k := 0) (i := 0) X 0 rfl rfl d_Hare_useText_21 ?_
      refine dk_get X q_Hare 0 3 (by decide) (oC_Hare g ad T S) rfl f_Hare_40 d_Hare_useText_22 ?_
      refine dk_aload_n (k := 0) (i := 0) X 0 rfl rfl d_Hare_useText_25 ?_
      refine dk_get X q_Hare 0 5 (by decide) (oC_Hare g ad T S) rfl f_Hare_53 d_Hare_useText_26 ?_
      refine dk_iload_n (k := 1) (i := 1) X 1 rfl rfl d_Hare_useText_29 ?_
      refine dk_txld X d_Hare_useText_30 hF (fun t2 ht2 ht26 hF => ?_)
      refine dk_puttx X (oC_Scales g ad T S) f_Hare_307 (sC_Scales_text g ad T S t2 ht26) d_Hare_useText_31 hF (Nat.le_of_ble_eq_true rfl) (fun S3 hF => ?_)
      exact dk_retv hR hF d_Hare_useText_34
def F_Hare_useText (n T : Nat) (x1 : Int32) (S : dk_S) : Option dk_S := B_Hare_useText_0 n T x1 S
theorem c_Hare_useText (l : Launch) (g : dk_G) (ad : Nat → Nat) (T n : Nat) (x1 : Int32)  (S : dk_S) : dk_Mv l g y_Hare_useText b_Hare_useText 2 rm_Hare_useText (none) [.ref (ad 0), .int x1] (wC g ad T) S (F_Hare_useText n T x1 S) := dk_enterv (by decide) rfl (Nat.le_of_ble_eq_true rfl) (fun p e s m args below meth c A Q res hF X hR => (kb_Hare_useText_0 (n := n) X hR  hF))
abbrev b_Hare_force : ByteArray := prog_1_method_11_code
def y_Hare_force : MethodName := ⟨R_Hare, "force", "(I)I"⟩
theorem d_Hare_force_0 : decode b_Hare_force 0 = .ok (.iload_n 1, 1) := by decide +kernel
theorem d_Hare_force_1 : decode b_Hare_force 1 = .ok (.ifCond .lt 11, 3) := by decide +kernel
theorem d_Hare_force_4 : decode b_Hare_force 4 = .ok (.iload_n 1, 1) := by decide +kernel
theorem d_Hare_force_5 : decode b_Hare_force 5 = .ok (.aload_n 0, 1) := by decide +kernel
theorem d_Hare_force_6 : decode b_Hare_force 6 = .ok (.getfield 57, 3) := by decide +kernel
theorem d_Hare_force_9 : decode b_Hare_force 9 = .ok (.if_icmp .lt 6, 3) := by decide +kernel
theorem d_Hare_force_12 : decode b_Hare_force 12 = .ok (.bipush (-2), 2) := by decide +kernel
theorem d_Hare_force_14 : decode b_Hare_force 14 = .ok (.ireturn, 1) := by decide +kernel
theorem d_Hare_force_15 : decode b_Hare_force 15 = .ok (.aload_n 0, 1) := by decide +kernel
theorem d_Hare_force_16 : decode b_Hare_force 16 = .ok (.getfield 61, 3) := by decide +kernel
theorem d_Hare_force_19 : decode b_Hare_force 19 = .ok (.istore_n 2, 1) := by decide +kernel
theorem d_Hare_force_20 : decode b_Hare_force 20 = .ok (.aload_n 0, 1) := by decide +kernel
theorem d_Hare_force_21 : decode b_Hare_force 21 = .ok (.iload_n 1, 1) := by decide +kernel
theorem d_Hare_force_22 : decode b_Hare_force 22 = .ok (.putfield 61, 3) := by decide +kernel
theorem d_Hare_force_25 : decode b_Hare_force 25 = .ok (.aload_n 0, 1) := by decide +kernel
theorem d_Hare_force_26 : decode b_Hare_force 26 = .ok (.iload_n 1, 1) := by decide +kernel
theorem d_Hare_force_27 : decode b_Hare_force 27 = .ok (.invokevirtual 155, 3) := by decide +kernel
theorem d_Hare_force_30 : decode b_Hare_force 30 = .ok (.iload_n 2, 1) := by decide +kernel
theorem d_Hare_force_31 : decode b_Hare_force 31 = .ok (.ireturn, 1) := by decide +kernel
theorem v_Hare_force : dk_Yv y_Hare_force b_Hare_force 3 (some .int) 1 := ⟨dk_in (List.mem_of_getElem? (i := 640) (by decide +kernel)) rfl, dk_in (List.mem_of_getElem? (i := 641) (by decide +kernel)) rfl, dk_in (List.mem_of_getElem? (i := 66) (by decide +kernel)) rfl, dk_in (List.mem_of_getElem? (i := 642) (by decide +kernel)) rfl, by decide +kernel, by decide +kernel, by decide +kernel⟩
abbrev rm_Hare_force : Room := { frames := 1, cells := 0, slots := 0, locals := 21 }
theorem f_Hare_61 : Cond.fieldLink R_Hare 61 (T_Hare 9).1 (T_Hare 9).2.1 (T_Hare 9).2.2.1 ∈ dk_tb := dk_in (List.mem_of_getElem? (i := 381) (by decide +kernel)) rfl
theorem m_Hare_155 : Cond.methodLink R_Hare 155 y_Hare_useText ∈ dk_tb := dk_in (List.mem_of_getElem? (i := 643) (by decide +kernel)) rfl
def B_Hare_force_0 (n T : Nat)  (x1 : Int32) (S : dk_S) : Option (Int32 × dk_S) :=
  if x1 < 0 then (some ((-2 : Int32), S)) else (if x1 < (S 100 0) then (dk_p S 101 x1 fun S1 => dk_cv (F_Hare_useText n T x1 S1) fun S2 => some ((S 101 0), S2)) else (some ((-2 : Int32), S)))
set_option maxRecDepth 20000 in
theorem kb_Hare_force_0 {p : Program} {l : Launch} {e : Env} {s : State} {m : MethodId} {args : Array Value} {below : List Frame} {meth : Method} {c : Code} {g : dk_G} {A : Nat → Prop} {Q : State → Prop} {ad : Nat → Nat} {T : Nat} {n : Nat} {res : (Int32 × dk_S)} (X : dk_X p s m args meth c b_Hare_force 3 R_Hare (some .int) g A) (hR : dk_Ri p l e rm_Hare_force s m args below meth c g A Q 3 b_Hare_force (some .int) (wC g ad T) res)  {x1 : Int32} {S : dk_S}  (hF : B_Hare_force_0 n T  x1 S = some res) : dk_J p l e rm_Hare_force s m args below meth c g A Q 3 0 0 0 [(0, .ref (ad 0)), (1, .int x1)] [] (wC g ad T S) := by
  unfold B_Hare_force_0 at hF
  refine dk_iload_n (k := 1) (i := 1) X 1 rfl rfl d_Hare_force_0 ?_
  refine dk_if_lt (tgt := 12) X (by decide) d_Hare_force_1 hF (fun hF => ?_) (fun hF => ?_)
  · refine dk_bipush (v := -2) X (by decide) d_Hare_force_12 ?_
    exact dk_reti hR hF d_Hare_force_14
  · refine dk_iload_n (k := 1) (i := 1) X 1 rfl rfl d_Hare_force_4 ?_
    refine dk_aload_n (k := 0) (i := 0) X 0 rfl rfl d_Hare_force_5 ?_
    refine dk_get X q_Hare 0 8 (by decide) (oC_Hare g ad T S) rfl f_Hare_57 d_Hare_force_6 ?_
    refine dk_icmp_lt (tgt := 15) X (by decide) d_Hare_force_9 hF (fun hF => ?_) (fun hF => ?_)
    · refine dk_aload_n (k := 0) (i := 0) X 0 rfl rfl d_Hare_force_15 ?_
      refine dk_get X q_Hare 0 9 (by decide) (oC_Hare g ad T S) rfl f_Hare_61 d_Hare_force_16 ?_
      refine dk_istore_n (k := 2) (i := 2) (lv' := [(2, .int (S 101 0)), (0, .ref (ad 0)), (1, .int x1)]) X rfl (by decide) rfl d_Hare_force_19 ?_
      refine dk_aload_n (k := 0) (i := 0) X 1 rfl rfl d_Hare_force_20 ?_
      refine dk_iload_n (k := 1) (i := 1) X 2 rfl rfl d_Hare_force_21 ?_
      refine dk_puti X q_Hare 0 9 (by decide) (oC_Hare g ad T S) f_Hare_61 rfl rfl (Nat.le_of_ble_eq_true rfl) (sC_Hare_law g ad T S _) d_Hare_force_22 hF (fun S1 hF => ?_)
      refine dk_aload_n (k := 0) (i := 0) X 1 rfl rfl d_Hare_force_25 ?_
      refine dk_iload_n (k := 1) (i := 1) X 2 rfl rfl d_Hare_force_26 ?_
      refine dk_callVv X v_Hare_useText [.int x1] (c_Hare_useText l g ad T n x1 S1) 0 (oC_Hare g ad T S1) rfl rfl m_Hare_155 rfl rfl ⟨rfl, rfl, Nat.le_of_ble_eq_true rfl, Nat.le_of_ble_eq_true rfl, Nat.le_refl _, Nat.le_refl _⟩ (Nat.le_of_ble_eq_true rfl) d_Hare_force_27 hF (fun S2 hF => ?_)
      refine dk_iload_n (k := 2) (i := 2) X 0 rfl rfl d_Hare_force_30 ?_
      exact dk_reti hR hF d_Hare_force_31
    · refine dk_bipush (v := -2) X (by decide) d_Hare_force_12 ?_
      exact dk_reti hR hF d_Hare_force_14
def F_Hare_force (n T : Nat) (x1 : Int32) (S : dk_S) : Option (Int32 × dk_S) := B_Hare_force_0 n T x1 S
theorem c_Hare_force (l : Launch) (g : dk_G) (ad : Nat → Nat) (T n : Nat) (x1 : Int32)  (S : dk_S) : dk_Mi l g y_Hare_force b_Hare_force 3 rm_Hare_force (some .int) [.ref (ad 0), .int x1] (wC g ad T) S (F_Hare_force n T x1 S) := dk_enteri (by decide) (Nat.le_of_ble_eq_true rfl) (fun p e s m args below meth c A Q res hF X hR => (kb_Hare_force_0 (n := n) X hR  hF))
abbrev b_Hare_follow : ByteArray := prog_1_method_12_code
def y_Hare_follow : MethodName := ⟨R_Hare, "follow", "(III)I"⟩
theorem d_Hare_follow_0 : decode b_Hare_follow 0 = .ok (.iload_n 1, 1) := by decide +kernel
theorem d_Hare_follow_1 : decode b_Hare_follow 1 = .ok (.invokestatic 104, 3) := by decide +kernel
theorem d_Hare_follow_4 : decode b_Hare_follow 4 = .ok (.ifCond .eq 25, 3) := by decide +kernel
theorem d_Hare_follow_7 : decode b_Hare_follow 7 = .ok (.aload_n 0, 1) := by decide +kernel
theorem d_Hare_follow_8 : decode b_Hare_follow 8 = .ok (.getfield 10, 3) := by decide +kernel
theorem d_Hare_follow_11 : decode b_Hare_follow 11 = .ok (.iload_n 2, 1) := by decide +kernel
theorem d_Hare_follow_12 : decode b_Hare_follow 12 = .ok (.invokevirtual 86, 3) := by decide +kernel
theorem d_Hare_follow_15 : decode b_Hare_follow 15 = .ok (.ifCond .eq 14, 3) := by decide +kernel
theorem d_Hare_follow_18 : decode b_Hare_follow 18 = .ok (.aload_n 0, 1) := by decide +kernel
theorem d_Hare_follow_19 : decode b_Hare_follow 19 = .ok (.getfield 10, 3) := by decide +kernel
theorem d_Hare_follow_22 : decode b_Hare_follow 22 = .ok (.iload_n 3, 1) := by decide +kernel
theorem d_Hare_follow_23 : decode b_Hare_follow 23 = .ok (.invokevirtual 97, 3) := by decide +kernel
theorem d_Hare_follow_26 : decode b_Hare_follow 26 = .ok (.ifCond .ne 6, 3) := by decide +kernel
theorem d_Hare_follow_29 : decode b_Hare_follow 29 = .ok (.bipush (-2), 2) := by decide +kernel
theorem d_Hare_follow_31 : decode b_Hare_follow 31 = .ok (.ireturn, 1) := by decide +kernel
theorem d_Hare_follow_32 : decode b_Hare_follow 32 = .ok (.aload_n 0, 1) := by decide +kernel
theorem d_Hare_follow_33 : decode b_Hare_follow 33 = .ok (.getfield 49, 3) := by decide +kernel
theorem d_Hare_follow_36 : decode b_Hare_follow 36 = .ok (.iload_n 1, 1) := by decide +kernel
theorem d_Hare_follow_37 : decode b_Hare_follow 37 = .ok (.iload_n 2, 1) := by decide +kernel
theorem d_Hare_follow_38 : decode b_Hare_follow 38 = .ok (.iload_n 3, 1) := by decide +kernel
theorem d_Hare_follow_39 : decode b_Hare_follow 39 = .ok (.invokevirtual 159, 3) := by decide +kernel
theorem d_Hare_follow_42 : decode b_Hare_follow 42 = .ok (.ifCond .eq 7, 3) := by decide +kernel
theorem d_Hare_follow_45 : decode b_Hare_follow 45 = .ok (.iconst 1, 1) := by decide +kernel
theorem d_Hare_follow_46 : decode b_Hare_follow 46 = .ok (.goto 4, 3) := by decide +kernel
theorem d_Hare_follow_49 : decode b_Hare_follow 49 = .ok (.iconst 0, 1) := by decide +kernel
theorem d_Hare_follow_50 : decode b_Hare_follow 50 = .ok (.ireturn, 1) := by decide +kernel
theorem v_Hare_follow : dk_Yv y_Hare_follow b_Hare_follow 4 (some .int) 3 := ⟨dk_in (List.mem_of_getElem? (i := 648) (by decide +kernel)) rfl, dk_in (List.mem_of_getElem? (i := 649) (by decide +kernel)) rfl, dk_in (List.mem_of_getElem? (i := 66) (by decide +kernel)) rfl, dk_in (List.mem_of_getElem? (i := 650) (by decide +kernel)) rfl, by decide +kernel, by decide +kernel, by decide +kernel⟩
abbrev rm_Hare_follow : Room := { frames := 3, cells := 0, slots := 0, locals := 70 }
theorem f_Hare_49 : Cond.fieldLink R_Hare 49 (T_Hare 4).1 (T_Hare 4).2.1 (T_Hare 4).2.2.1 ∈ dk_tb := dk_in (List.mem_of_getElem? (i := 376) (by decide +kernel)) rfl
theorem m_Hare_159 : Cond.methodLink R_Hare 159 y_Scene_mayFollow ∈ dk_tb := dk_in (List.mem_of_getElem? (i := 651) (by decide +kernel)) rfl
def B_Hare_follow_0 (n T : Nat)  (x1 : Int32) (x2 : Int32) (x3 : Int32) (S : dk_S) : Option (Int32 × dk_S) :=
  dk_c (F_Hare_isOne n T x1 S) fun r2 S1 => if r2 = 0 then (some ((-2 : Int32), S1)) else (dk_c (F_Land_hasGround n T x2 S1) fun r4 S3 => if r4 = 0 then (some ((-2 : Int32), S3)) else (dk_c (F_Land_hasBeast n T x3 S3) fun r6 S5 => if ¬ r6 = 0 then (dk_c (F_Scene_mayFollow n T x1 x2 x3 S5) fun r8 S7 => if r8 = 0 then (some ((0 : Int32), S7)) else (some ((1 : Int32), S7))) else (some ((-2 : Int32), S5))))
set_option maxRecDepth 20000 in
theorem kb_Hare_follow_0 {p : Program} {l : Launch} {e : Env} {s : State} {m : MethodId} {args : Array Value} {below : List Frame} {meth : Method} {c : Code} {g : dk_G} {A : Nat → Prop} {Q : State → Prop} {ad : Nat → Nat} {T : Nat} {n : Nat} {res : (Int32 × dk_S)} (X : dk_X p s m args meth c b_Hare_follow 4 R_Hare (some .int) g A) (hR : dk_Ri p l e rm_Hare_follow s m args below meth c g A Q 4 b_Hare_follow (some .int) (wC g ad T) res)  {x1 : Int32} {x2 : Int32} {x3 : Int32} {S : dk_S}  (hF : B_Hare_follow_0 n T  x1 x2 x3 S = some res) : dk_J p l e rm_Hare_follow s m args below meth c g A Q 4 0 0 0 [(0, .ref (ad 0)), (1, .int x1), (2, .int x2), (3, .int x3)] [] (wC g ad T S) := by
  unfold B_Hare_follow_0 at hF
  refine dk_iload_n (k := 1) (i := 1) X 1 rfl rfl d_Hare_follow_0 ?_
  refine dk_callSi X v_Hare_isOne [.int x1] (c_Hare_isOne l g ad T n x1 S) m_Hare_104 rfl rfl ⟨rfl, rfl, Nat.le_of_ble_eq_true rfl, Nat.le_of_ble_eq_true rfl, Nat.le_refl _, Nat.le_refl _⟩ (Nat.le_of_ble_eq_true rfl) d_Hare_follow_1 hF (fun r2 S1 hF => ?_)
  refine dk_if_eq (tgt := 29) X (by decide) d_Hare_follow_4 hF (fun hF => ?_) (fun hF => ?_)
  · refine dk_bipush (v := -2) X (by decide) d_Hare_follow_29 ?_
    exact dk_reti hR hF d_Hare_follow_31
  · refine dk_aload_n (k := 0) (i := 0) X 0 rfl rfl d_Hare_follow_7 ?_
    refine dk_get X q_Hare 0 0 (by decide) (oC_Hare g ad T S1) rfl f_Hare_10 d_Hare_follow_8 ?_
    refine dk_iload_n (k := 2) (i := 2) X 2 rfl rfl d_Hare_follow_11 ?_
    refine dk_callVi X v_Land_hasGround [.int x2] (c_Land_hasGround l g ad T n x2 S1) 1 (oC_Land g ad T S1) rfl rfl m_Hare_86 rfl rfl ⟨rfl, rfl, Nat.le_of_ble_eq_true rfl, Nat.le_of_ble_eq_true rfl, Nat.le_refl _, Nat.le_refl _⟩ (Nat.le_of_ble_eq_true rfl) d_Hare_follow_12 hF (fun r4 S3 hF => ?_)
    refine dk_if_eq (tgt := 29) X (by decide) d_Hare_follow_15 hF (fun hF => ?_) (fun hF => ?_)
    · refine dk_bipush (v := -2) X (by decide) d_Hare_follow_29 ?_
      exact dk_reti hR hF d_Hare_follow_31
    · refine dk_aload_n (k := 0) (i := 0) X 0 rfl rfl d_Hare_follow_18 ?_
      refine dk_get X q_Hare 0 0 (by decide) (oC_Hare g ad T S3) rfl f_Hare_10 d_Hare_follow_19 ?_
      refine dk_iload_n (k := 3) (i := 3) X 3 rfl rfl d_Hare_follow_22 ?_
      refine dk_callVi X v_Land_hasBeast [.int x3] (c_Land_hasBeast l g ad T n x3 S3) 1 (oC_Land g ad T S3) rfl rfl m_Hare_97 rfl rfl ⟨rfl, rfl, Nat.le_of_ble_eq_true rfl, Nat.le_of_ble_eq_true rfl, Nat.le_refl _, Nat.le_refl _⟩ (Nat.le_of_ble_eq_true rfl) d_Hare_follow_23 hF (fun r6 S5 hF => ?_)
      refine dk_if_ne (tgt := 32) X (by decide) d_Hare_follow_26 hF (fun hF => ?_) (fun hF => ?_)
      · refine dk_aload_n (k := 0) (i := 0) X 0 rfl rfl d_Hare_follow_32 ?_
        refine dk_get X q_Hare 0 4 (by decide) (oC_Hare g ad T S5) rfl f_Hare_49 d_Hare_follow_33 ?_
        refine dk_iload_n (k := 1) (i := 1) X 1 rfl rfl d_Hare_follow_36 ?_
        refine dk_iload_n (k := 2) (i := 2) X 2 rfl rfl d_Hare_follow_37 ?_
        refine dk_iload_n (k := 3) (i := 3) X 3 rfl rfl d_Hare_follow_38 ?_
        refine dk_callVi X v_Scene_mayFollow [.int x1, .int x2, .int x3] (c_Scene_mayFollow l g ad T n x1 x2 x3 S5) 18 (oC_Scene g ad T S5) rfl rfl m_Hare_159 rfl rfl ⟨rfl, rfl, Nat.le_of_ble_eq_true rfl, Nat.le_of_ble_eq_true rfl, Nat.le_refl _, Nat.le_refl _⟩ (Nat.le_of_ble_eq_true rfl) d_Hare_follow_39 hF (fun r8 S7 hF => ?_)
        refine dk_if_eq (tgt := 49) X (by decide) d_Hare_follow_42 hF (fun hF => ?_) (fun hF => ?_)
        · refine dk_iconst (v := 0) X (by decide) d_Hare_follow_49 ?_
          exact dk_reti hR hF d_Hare_follow_50
        · refine dk_iconst (v := 1) X (by decide) d_Hare_follow_45 ?_
          refine dk_goto (tgt := 50) X (by decide) d_Hare_follow_46 ?_
          exact dk_reti hR hF d_Hare_follow_50
      · refine dk_bipush (v := -2) X (by decide) d_Hare_follow_29 ?_
        exact dk_reti hR hF d_Hare_follow_31
def F_Hare_follow (n T : Nat) (x1 : Int32) (x2 : Int32) (x3 : Int32) (S : dk_S) : Option (Int32 × dk_S) := B_Hare_follow_0 n T x1 x2 x3 S
theorem c_Hare_follow (l : Launch) (g : dk_G) (ad : Nat → Nat) (T n : Nat) (x1 : Int32) (x2 : Int32) (x3 : Int32)  (S : dk_S) : dk_Mi l g y_Hare_follow b_Hare_follow 4 rm_Hare_follow (some .int) [.ref (ad 0), .int x1, .int x2, .int x3] (wC g ad T) S (F_Hare_follow n T x1 x2 x3 S) := dk_enteri (by decide) (Nat.le_of_ble_eq_true rfl) (fun p e s m args below meth c A Q res hF X hR => (kb_Hare_follow_0 (n := n) X hR  hF))
abbrev b_Hare_claims : ByteArray := prog_1_method_13_code
def y_Hare_claims : MethodName := ⟨R_Hare, "claims", "(I)I"⟩
theorem d_Hare_claims_0 : decode b_Hare_claims 0 = .ok (.aload_n 0, 1) := by decide +kernel
theorem d_Hare_claims_1 : decode b_Hare_claims 1 = .ok (.getfield 19, 3) := by decide +kernel
theorem d_Hare_claims_4 : decode b_Hare_claims 4 = .ok (.iload_n 1, 1) := by decide +kernel
theorem d_Hare_claims_5 : decode b_Hare_claims 5 = .ok (.invokevirtual 163, 3) := by decide +kernel
theorem d_Hare_claims_8 : decode b_Hare_claims 8 = .ok (.ifCond .ne 6, 3) := by decide +kernel
theorem d_Hare_claims_11 : decode b_Hare_claims 11 = .ok (.bipush (-2), 2) := by decide +kernel
theorem d_Hare_claims_13 : decode b_Hare_claims 13 = .ok (.ireturn, 1) := by decide +kernel
theorem d_Hare_claims_14 : decode b_Hare_claims 14 = .ok (.aload_n 0, 1) := by decide +kernel
theorem d_Hare_claims_15 : decode b_Hare_claims 15 = .ok (.getfield 49, 3) := by decide +kernel
theorem d_Hare_claims_18 : decode b_Hare_claims 18 = .ok (.iload_n 1, 1) := by decide +kernel
theorem d_Hare_claims_19 : decode b_Hare_claims 19 = .ok (.invokevirtual 166, 3) := by decide +kernel
theorem d_Hare_claims_22 : decode b_Hare_claims 22 = .ok (.aload_n 0, 1) := by decide +kernel
theorem d_Hare_claims_23 : decode b_Hare_claims 23 = .ok (.getfield 49, 3) := by decide +kernel
theorem d_Hare_claims_26 : decode b_Hare_claims 26 = .ok (.getfield 169, 3) := by decide +kernel
theorem d_Hare_claims_29 : decode b_Hare_claims 29 = .ok (.ireturn, 1) := by decide +kernel
theorem v_Hare_claims : dk_Yv y_Hare_claims b_Hare_claims 2 (some .int) 1 := ⟨dk_in (List.mem_of_getElem? (i := 678) (by decide +kernel)) rfl, dk_in (List.mem_of_getElem? (i := 679) (by decide +kernel)) rfl, dk_in (List.mem_of_getElem? (i := 66) (by decide +kernel)) rfl, dk_in (List.mem_of_getElem? (i := 680) (by decide +kernel)) rfl, by decide +kernel, by decide +kernel, by decide +kernel⟩
abbrev rm_Hare_claims : Room := { frames := 5, cells := 0, slots := 0, locals := 118 }
theorem f_Hare_169 : Cond.fieldLink R_Hare 169 (T_Scene 11).1 (T_Scene 11).2.1 (T_Scene 11).2.2.1 ∈ dk_tb := dk_in (List.mem_of_getElem? (i := 267) (by decide +kernel)) rfl
theorem m_Hare_163 : Cond.methodLink R_Hare 163 y_Diary_reaches ∈ dk_tb := dk_in (List.mem_of_getElem? (i := 681) (by decide +kernel)) rfl
theorem m_Hare_166 : Cond.methodLink R_Hare 166 y_Scene_reach ∈ dk_tb := dk_in (List.mem_of_getElem? (i := 685) (by decide +kernel)) rfl
def B_Hare_claims_0 (n T : Nat)  (x1 : Int32) (S : dk_S) : Option (Int32 × dk_S) :=
  dk_c (F_Diary_reaches n T x1 S) fun r2 S1 => if ¬ r2 = 0 then (dk_cv (F_Scene_reach n T x1 S1) fun S3 => some ((S3 115 0), S3)) else (some ((-2 : Int32), S1))
set_option maxRecDepth 20000 in
theorem kb_Hare_claims_0 {p : Program} {l : Launch} {e : Env} {s : State} {m : MethodId} {args : Array Value} {below : List Frame} {meth : Method} {c : Code} {g : dk_G} {A : Nat → Prop} {Q : State → Prop} {ad : Nat → Nat} {T : Nat} {n : Nat} {res : (Int32 × dk_S)} (X : dk_X p s m args meth c b_Hare_claims 2 R_Hare (some .int) g A) (hR : dk_Ri p l e rm_Hare_claims s m args below meth c g A Q 2 b_Hare_claims (some .int) (wC g ad T) res)  {x1 : Int32} {S : dk_S}  (hF : B_Hare_claims_0 n T  x1 S = some res) : dk_J p l e rm_Hare_claims s m args below meth c g A Q 2 0 0 0 [(0, .ref (ad 0)), (1, .int x1)] [] (wC g ad T S) := by
  unfold B_Hare_claims_0 at hF
  refine dk_aload_n (k := 0) (i := 0) X 0 rfl rfl d_Hare_claims_0 ?_
  refine dk_get X q_Hare 0 1 (by decide) (oC_Hare g ad T S) rfl f_Hare_19 d_Hare_claims_1 ?_
  refine dk_iload_n (k := 1) (i := 1) X 1 rfl rfl d_Hare_claims_4 ?_
  refine dk_callVi X v_Diary_reaches [.int x1] (c_Diary_reaches l g ad T n x1 S) 5 (oC_Diary g ad T S) rfl rfl m_Hare_163 rfl rfl ⟨rfl, rfl, Nat.le_of_ble_eq_true rfl, Nat.le_of_ble_eq_true rfl, Nat.le_refl _, Nat.le_refl _⟩ (Nat.le_of_ble_eq_true rfl) d_Hare_claims_5 hF (fun r2 S1 hF => ?_)
  refine dk_if_ne (tgt := 14) X (by decide) d_Hare_claims_8 hF (fun hF => ?_) (fun hF => ?_)
  · refine dk_aload_n (k := 0) (i := 0) X 0 rfl rfl d_Hare_claims_14 ?_
    refine dk_get X q_Hare 0 4 (by decide) (oC_Hare g ad T S1) rfl f_Hare_49 d_Hare_claims_15 ?_
    refine dk_iload_n (k := 1) (i := 1) X 1 rfl rfl d_Hare_claims_18 ?_
    refine dk_callVv X v_Scene_reach [.int x1] (c_Scene_reach l g ad T n x1 S1) 18 (oC_Scene g ad T S1) rfl rfl m_Hare_166 rfl rfl ⟨rfl, rfl, Nat.le_of_ble_eq_true rfl, Nat.le_of_ble_eq_true rfl, Nat.le_refl _, Nat.le_refl _⟩ (Nat.le_of_ble_eq_true rfl) d_Hare_claims_19 hF (fun S3 hF => ?_)
    refine dk_aload_n (k := 0) (i := 0) X 0 rfl rfl d_Hare_claims_22 ?_
    refine dk_get X q_Hare 0 4 (by decide) (oC_Hare g ad T S3) rfl f_Hare_49 d_Hare_claims_23 ?_
    refine dk_get X q_Scene 18 11 (by decide) (oC_Scene g ad T S3) rfl f_Hare_169 d_Hare_claims_26 ?_
    exact dk_reti hR hF d_Hare_claims_29
  · refine dk_bipush (v := -2) X (by decide) d_Hare_claims_11 ?_
    exact dk_reti hR hF d_Hare_claims_13
def F_Hare_claims (n T : Nat) (x1 : Int32) (S : dk_S) : Option (Int32 × dk_S) := B_Hare_claims_0 n T x1 S
theorem c_Hare_claims (l : Launch) (g : dk_G) (ad : Nat → Nat) (T n : Nat) (x1 : Int32)  (S : dk_S) : dk_Mi l g y_Hare_claims b_Hare_claims 2 rm_Hare_claims (some .int) [.ref (ad 0), .int x1] (wC g ad T) S (F_Hare_claims n T x1 S) := dk_enteri (by decide) (Nat.le_of_ble_eq_true rfl) (fun p e s m args below meth c A Q res hF X hR => (kb_Hare_claims_0 (n := n) X hR  hF))
abbrev b_Hare_claimTold : ByteArray := prog_1_method_14_code
def y_Hare_claimTold : MethodName := ⟨R_Hare, "claimTold", "(III)I"⟩
theorem d_Hare_claimTold_0 : decode b_Hare_claimTold 0 = .ok (.aload_n 0, 1) := by decide +kernel
theorem d_Hare_claimTold_1 : decode b_Hare_claimTold 1 = .ok (.getfield 19, 3) := by decide +kernel
theorem d_Hare_claimTold_4 : decode b_Hare_claimTold 4 = .ok (.iload_n 1, 1) := by decide +kernel
theorem d_Hare_claimTold_5 : decode b_Hare_claimTold 5 = .ok (.invokevirtual 163, 3) := by decide +kernel
theorem d_Hare_claimTold_8 : decode b_Hare_claimTold 8 = .ok (.ifCond .ne 6, 3) := by decide +kernel
theorem d_Hare_claimTold_11 : decode b_Hare_claimTold 11 = .ok (.bipush (-2), 2) := by decide +kernel
theorem d_Hare_claimTold_13 : decode b_Hare_claimTold 13 = .ok (.ireturn, 1) := by decide +kernel
theorem d_Hare_claimTold_14 : decode b_Hare_claimTold 14 = .ok (.aload_n 0, 1) := by decide +kernel
theorem d_Hare_claimTold_15 : decode b_Hare_claimTold 15 = .ok (.getfield 49, 3) := by decide +kernel
theorem d_Hare_claimTold_18 : decode b_Hare_claimTold 18 = .ok (.iload_n 1, 1) := by decide +kernel
theorem d_Hare_claimTold_19 : decode b_Hare_claimTold 19 = .ok (.invokevirtual 166, 3) := by decide +kernel
theorem d_Hare_claimTold_22 : decode b_Hare_claimTold 22 = .ok (.aload_n 0, 1) := by decide +kernel
theorem d_Hare_claimTold_23 : decode b_Hare_claimTold 23 = .ok (.getfield 49, 3) := by decide +kernel
theorem d_Hare_claimTold_26 : decode b_Hare_claimTold 26 = .ok (.iload_n 2, 1) := by decide +kernel
theorem d_Hare_claimTold_27 : decode b_Hare_claimTold 27 = .ok (.invokevirtual 170, 3) := by decide +kernel
theorem d_Hare_claimTold_30 : decode b_Hare_claimTold 30 = .ok (.ifCond .ne 6, 3) := by decide +kernel
theorem d_Hare_claimTold_33 : decode b_Hare_claimTold 33 = .ok (.bipush (-5), 2) := by decide +kernel
theorem d_Hare_claimTold_35 : decode b_Hare_claimTold 35 = .ok (.ireturn, 1) := by decide +kernel
theorem d_Hare_claimTold_36 : decode b_Hare_claimTold 36 = .ok (.iload_n 3, 1) := by decide +kernel
theorem d_Hare_claimTold_37 : decode b_Hare_claimTold 37 = .ok (.tableswitch 132 0 7 #[47, 57, 67, 77, 87, 97, 114, 123], 47) := by decide +kernel
theorem d_Hare_claimTold_84 : decode b_Hare_claimTold 84 = .ok (.aload_n 0, 1) := by decide +kernel
theorem d_Hare_claimTold_85 : decode b_Hare_claimTold 85 = .ok (.getfield 49, 3) := by decide +kernel
theorem d_Hare_claimTold_88 : decode b_Hare_claimTold 88 = .ok (.getfield 171, 3) := by decide +kernel
theorem d_Hare_claimTold_91 : decode b_Hare_claimTold 91 = .ok (.iload_n 2, 1) := by decide +kernel
theorem d_Hare_claimTold_92 : decode b_Hare_claimTold 92 = .ok (.iaload, 1) := by decide +kernel
theorem d_Hare_claimTold_93 : decode b_Hare_claimTold 93 = .ok (.ireturn, 1) := by decide +kernel
theorem d_Hare_claimTold_94 : decode b_Hare_claimTold 94 = .ok (.aload_n 0, 1) := by decide +kernel
theorem d_Hare_claimTold_95 : decode b_Hare_claimTold 95 = .ok (.getfield 49, 3) := by decide +kernel
theorem d_Hare_claimTold_98 : decode b_Hare_claimTold 98 = .ok (.getfield 174, 3) := by decide +kernel
theorem d_Hare_claimTold_101 : decode b_Hare_claimTold 101 = .ok (.iload_n 2, 1) := by decide +kernel
theorem d_Hare_claimTold_102 : decode b_Hare_claimTold 102 = .ok (.iaload, 1) := by decide +kernel
theorem d_Hare_claimTold_103 : decode b_Hare_claimTold 103 = .ok (.ireturn, 1) := by decide +kernel
theorem d_Hare_claimTold_104 : decode b_Hare_claimTold 104 = .ok (.aload_n 0, 1) := by decide +kernel
theorem d_Hare_claimTold_105 : decode b_Hare_claimTold 105 = .ok (.getfield 49, 3) := by decide +kernel
theorem d_Hare_claimTold_108 : decode b_Hare_claimTold 108 = .ok (.getfield 177, 3) := by decide +kernel
theorem d_Hare_claimTold_111 : decode b_Hare_claimTold 111 = .ok (.iload_n 2, 1) := by decide +kernel
theorem d_Hare_claimTold_112 : decode b_Hare_claimTold 112 = .ok (.iaload, 1) := by decide +kernel
theorem d_Hare_claimTold_113 : decode b_Hare_claimTold 113 = .ok (.ireturn, 1) := by decide +kernel
theorem d_Hare_claimTold_114 : decode b_Hare_claimTold 114 = .ok (.aload_n 0, 1) := by decide +kernel
theorem d_Hare_claimTold_115 : decode b_Hare_claimTold 115 = .ok (.getfield 49, 3) := by decide +kernel
theorem d_Hare_claimTold_118 : decode b_Hare_claimTold 118 = .ok (.getfield 178, 3) := by decide +kernel
theorem d_Hare_claimTold_121 : decode b_Hare_claimTold 121 = .ok (.iload_n 2, 1) := by decide +kernel
theorem d_Hare_claimTold_122 : decode b_Hare_claimTold 122 = .ok (.iaload, 1) := by decide +kernel
theorem d_Hare_claimTold_123 : decode b_Hare_claimTold 123 = .ok (.ireturn, 1) := by decide +kernel
theorem d_Hare_claimTold_124 : decode b_Hare_claimTold 124 = .ok (.aload_n 0, 1) := by decide +kernel
theorem d_Hare_claimTold_125 : decode b_Hare_claimTold 125 = .ok (.getfield 49, 3) := by decide +kernel
theorem d_Hare_claimTold_128 : decode b_Hare_claimTold 128 = .ok (.getfield 181, 3) := by decide +kernel
theorem d_Hare_claimTold_131 : decode b_Hare_claimTold 131 = .ok (.iload_n 2, 1) := by decide +kernel
theorem d_Hare_claimTold_132 : decode b_Hare_claimTold 132 = .ok (.iaload, 1) := by decide +kernel
theorem d_Hare_claimTold_133 : decode b_Hare_claimTold 133 = .ok (.ireturn, 1) := by decide +kernel
theorem d_Hare_claimTold_134 : decode b_Hare_claimTold 134 = .ok (.aload_n 0, 1) := by decide +kernel
theorem d_Hare_claimTold_135 : decode b_Hare_claimTold 135 = .ok (.getfield 49, 3) := by decide +kernel
theorem d_Hare_claimTold_138 : decode b_Hare_claimTold 138 = .ok (.iload_n 2, 1) := by decide +kernel
theorem d_Hare_claimTold_139 : decode b_Hare_claimTold 139 = .ok (.invokevirtual 184, 3) := by decide +kernel
theorem d_Hare_claimTold_142 : decode b_Hare_claimTold 142 = .ok (.ifCond .eq 7, 3) := by decide +kernel
theorem d_Hare_claimTold_145 : decode b_Hare_claimTold 145 = .ok (.iconst 1, 1) := by decide +kernel
theorem d_Hare_claimTold_146 : decode b_Hare_claimTold 146 = .ok (.goto 4, 3) := by decide +kernel
theorem d_Hare_claimTold_149 : decode b_Hare_claimTold 149 = .ok (.iconst 0, 1) := by decide +kernel
theorem d_Hare_claimTold_150 : decode b_Hare_claimTold 150 = .ok (.ireturn, 1) := by decide +kernel
theorem d_Hare_claimTold_151 : decode b_Hare_claimTold 151 = .ok (.aload_n 0, 1) := by decide +kernel
theorem d_Hare_claimTold_152 : decode b_Hare_claimTold 152 = .ok (.getfield 49, 3) := by decide +kernel
theorem d_Hare_claimTold_155 : decode b_Hare_claimTold 155 = .ok (.iload_n 2, 1) := by decide +kernel
theorem d_Hare_claimTold_156 : decode b_Hare_claimTold 156 = .ok (.invokevirtual 187, 3) := by decide +kernel
theorem d_Hare_claimTold_159 : decode b_Hare_claimTold 159 = .ok (.ireturn, 1) := by decide +kernel
theorem d_Hare_claimTold_160 : decode b_Hare_claimTold 160 = .ok (.aload_n 0, 1) := by decide +kernel
theorem d_Hare_claimTold_161 : decode b_Hare_claimTold 161 = .ok (.getfield 49, 3) := by decide +kernel
theorem d_Hare_claimTold_164 : decode b_Hare_claimTold 164 = .ok (.iload_n 2, 1) := by decide +kernel
theorem d_Hare_claimTold_165 : decode b_Hare_claimTold 165 = .ok (.invokevirtual 190, 3) := by decide +kernel
theorem d_Hare_claimTold_168 : decode b_Hare_claimTold 168 = .ok (.ireturn, 1) := by decide +kernel
theorem d_Hare_claimTold_169 : decode b_Hare_claimTold 169 = .ok (.bipush (-7), 2) := by decide +kernel
theorem d_Hare_claimTold_171 : decode b_Hare_claimTold 171 = .ok (.ireturn, 1) := by decide +kernel
theorem v_Hare_claimTold : dk_Yv y_Hare_claimTold b_Hare_claimTold 4 (some .int) 3 := ⟨dk_in (List.mem_of_getElem? (i := 740) (by decide +kernel)) rfl, dk_in (List.mem_of_getElem? (i := 741) (by decide +kernel)) rfl, dk_in (List.mem_of_getElem? (i := 66) (by decide +kernel)) rfl, dk_in (List.mem_of_getElem? (i := 742) (by decide +kernel)) rfl, by decide +kernel, by decide +kernel, by decide +kernel⟩
abbrev rm_Hare_claimTold : Room := { frames := 5, cells := 0, slots := 0, locals := 118 }
theorem f_Hare_171 : Cond.fieldLink R_Hare 171 (T_Scene 3).1 (T_Scene 3).2.1 (T_Scene 3).2.2.1 ∈ dk_tb := dk_in (List.mem_of_getElem? (i := 254) (by decide +kernel)) rfl
theorem f_Hare_174 : Cond.fieldLink R_Hare 174 (T_Scene 4).1 (T_Scene 4).2.1 (T_Scene 4).2.2.1 ∈ dk_tb := dk_in (List.mem_of_getElem? (i := 256) (by decide +kernel)) rfl
theorem f_Hare_177 : Cond.fieldLink R_Hare 177 (T_Scene 5).1 (T_Scene 5).2.1 (T_Scene 5).2.2.1 ∈ dk_tb := dk_in (List.mem_of_getElem? (i := 258) (by decide +kernel)) rfl
theorem f_Hare_178 : Cond.fieldLink R_Hare 178 (T_Scene 6).1 (T_Scene 6).2.1 (T_Scene 6).2.2.1 ∈ dk_tb := dk_in (List.mem_of_getElem? (i := 260) (by decide +kernel)) rfl
theorem f_Hare_181 : Cond.fieldLink R_Hare 181 (T_Scene 7).1 (T_Scene 7).2.1 (T_Scene 7).2.2.1 ∈ dk_tb := dk_in (List.mem_of_getElem? (i := 262) (by decide +kernel)) rfl
theorem m_Hare_170 : Cond.methodLink R_Hare 170 y_Scene_has ∈ dk_tb := dk_in (List.mem_of_getElem? (i := 743) (by decide +kernel)) rfl
theorem m_Hare_184 : Cond.methodLink R_Hare 184 y_Scene_stands ∈ dk_tb := dk_in (List.mem_of_getElem? (i := 747) (by decide +kernel)) rfl
theorem m_Hare_187 : Cond.methodLink R_Hare 187 y_Scene_weight ∈ dk_tb := dk_in (List.mem_of_getElem? (i := 764) (by decide +kernel)) rfl
theorem m_Hare_190 : Cond.methodLink R_Hare 190 y_Scene_worth ∈ dk_tb := dk_in (List.mem_of_getElem? (i := 768) (by decide +kernel)) rfl
def B_Hare_claimTold_0 (n T : Nat)  (x1 : Int32) (x2 : Int32) (x3 : Int32) (S : dk_S) : Option (Int32 × dk_S) :=
  dk_c (F_Diary_reaches n T x1 S) fun r2 S1 => if ¬ r2 = 0 then (dk_cv (F_Scene_reach n T x1 S1) fun S3 => dk_c (F_Scene_has n T x2 S3) fun r6 S5 => if ¬ r6 = 0 then (if x3 = (0 : Int32) then (dk_r 44 (S5 19) x2 fun v7 => some (v7, S5)) else (if x3 = (1 : Int32) then (dk_r 44 (S5 20) x2 fun v8 => some (v8, S5)) else (if x3 = (2 : Int32) then (dk_r 44 (S5 21) x2 fun v9 => some (v9, S5)) else (if x3 = (3 : Int32) then (dk_r 44 (S5 22) x2 fun v10 => some (v10, S5)) else (if x3 = (4 : Int32) then (dk_r 44 (S5 23) x2 fun v11 => some (v11, S5)) else (if x3 = (5 : Int32) then (dk_c (F_Scene_stands n T x2 S5) fun r13 S12 => if r13 = 0 then (some ((0 : Int32), S12)) else (some ((1 : Int32), S12))) else (if x3 = (6 : Int32) then (dk_c (F_Scene_weight n T x2 S5) fun r15 S14 => some (r15, S14)) else (if x3 = (7 : Int32) then (dk_c (F_Scene_worth n T x2 S5) fun r17 S16 => some (r17, S16)) else (some ((-7 : Int32), S5)))))))))) else (some ((-5 : Int32), S5))) else (some ((-2 : Int32), S1))
set_option maxRecDepth 20000 in
theorem kb_Hare_claimTold_0 {p : Program} {l : Launch} {e : Env} {s : State} {m : MethodId} {args : Array Value} {below : List Frame} {meth : Method} {c : Code} {g : dk_G} {A : Nat → Prop} {Q : State → Prop} {ad : Nat → Nat} {T : Nat} {n : Nat} {res : (Int32 × dk_S)} (X : dk_X p s m args meth c b_Hare_claimTold 4 R_Hare (some .int) g A) (hR : dk_Ri p l e rm_Hare_claimTold s m args below meth c g A Q 4 b_Hare_claimTold (some .int) (wC g ad T) res)  {x1 : Int32} {x2 : Int32} {x3 : Int32} {S : dk_S}  (hF : B_Hare_claimTold_0 n T  x1 x2 x3 S = some res) : dk_J p l e rm_Hare_claimTold s m args below meth c g A Q 4 0 0 0 [(0, .ref (ad 0)), (1, .int x1), (2, .int x2), (3, .int x3)] [] (wC g ad T S) := by
  unfold B_Hare_claimTold_0 at hF
  refine dk_aload_n (k := 0) (i := 0) X 0 rfl rfl d_Hare_claimTold_0 ?_
  refine dk_get X q_Hare 0 1 (by decide) (oC_Hare g ad T S) rfl f_Hare_19 d_Hare_claimTold_1 ?_
  refine dk_iload_n (k := 1) (i := 1) X 1 rfl rfl d_Hare_claimTold_4 ?_
  refine dk_callVi X v_Diary_reaches [.int x1] (c_Diary_reaches l g ad T n x1 S) 5 (oC_Diary g ad T S) rfl rfl m_Hare_163 rfl rfl ⟨rfl, rfl, Nat.le_of_ble_eq_true rfl, Nat.le_of_ble_eq_true rfl, Nat.le_refl _, Nat.le_refl _⟩ (Nat.le_of_ble_eq_true rfl) d_Hare_claimTold_5 hF (fun r2 S1 hF => ?_)
  refine dk_if_ne (tgt := 14) X (by decide) d_Hare_claimTold_8 hF (fun hF => ?_) (fun hF => ?_)
  · refine dk_aload_n (k := 0) (i := 0) X 0 rfl rfl d_Hare_claimTold_14 ?_
    refine dk_get X q_Hare 0 4 (by decide) (oC_Hare g ad T S1) rfl f_Hare_49 d_Hare_claimTold_15 ?_
    refine dk_iload_n (k := 1) (i := 1) X 1 rfl rfl d_Hare_claimTold_18 ?_
    refine dk_callVv X v_Scene_reach [.int x1] (c_Scene_reach l g ad T n x1 S1) 18 (oC_Scene g ad T S1) rfl rfl m_Hare_166 rfl rfl ⟨rfl, rfl, Nat.le_of_ble_eq_true rfl, Nat.le_of_ble_eq_true rfl, Nat.le_refl _, Nat.le_refl _⟩ (Nat.le_of_ble_eq_true rfl) d_Hare_claimTold_19 hF (fun S3 hF => ?_)
    refine dk_aload_n (k := 0) (i := 0) X 0 rfl rfl d_Hare_claimTold_22 ?_
    refine dk_get X q_Hare 0 4 (by decide) (oC_Hare g ad T S3) rfl f_Hare_49 d_Hare_claimTold_23 ?_
    refine dk_iload_n (k := 2) (i := 2) X 2 rfl rfl d_Hare_claimTold_26 ?_
    refine dk_callVi X v_Scene_has [.int x2] (c_Scene_has l g ad T n x2 S3) 18 (oC_Scene g ad T S3) rfl rfl m_Hare_170 rfl rfl ⟨rfl, rfl, Nat.le_of_ble_eq_true rfl, Nat.le_of_ble_eq_true rfl, Nat.le_refl _, Nat.le_refl _⟩ (Nat.le_of_ble_eq_true rfl) d_Hare_claimTold_27 hF (fun r6 S5 hF => ?_)
    refine dk_if_ne (tgt := 36) X (by decide) d_Hare_claimTold_30 hF (fun hF => ?_) (fun hF => ?_)
    · refine dk_iload_n (k := 3) (i := 3) X 3 rfl rfl d_Hare_claimTold_36 ?_
      refine dk_if hF (fun hc0 hF => ?_) (fun hc0 hF => ?_)
      · refine dk_tsIn (v := 0) (tgt := 84) X d_Hare_claimTold_37 (by rw [hc0]; decide) (by decide) (by decide) rfl (by decide) ?_
        refine dk_aload_n (k := 0) (i := 0) X 0 rfl rfl d_Hare_claimTold_84 ?_
        refine dk_get X q_Hare 0 4 (by decide) (oC_Hare g ad T S5) rfl f_Hare_49 d_Hare_claimTold_85 ?_
        refine dk_get X q_Scene 18 3 (by decide) (oC_Scene g ad T S5) rfl f_Hare_171 d_Hare_claimTold_88 ?_
        refine dk_iload_n (k := 2) (i := 2) X 2 rfl rfl d_Hare_claimTold_91 ?_
        refine dk_iald X 19 (aC_19 g ad T S5) d_Hare_claimTold_92 hF (fun v7 hF => ?_)
        exact dk_reti hR hF d_Hare_claimTold_93
      · refine dk_if hF (fun hc1 hF => ?_) (fun hc1 hF => ?_)
        · refine dk_tsIn (v := 1) (tgt := 94) X d_Hare_claimTold_37 (by rw [hc1]; decide) (by decide) (by decide) rfl (by decide) ?_
          refine dk_aload_n (k := 0) (i := 0) X 0 rfl rfl d_Hare_claimTold_94 ?_
          refine dk_get X q_Hare 0 4 (by decide) (oC_Hare g ad T S5) rfl f_Hare_49 d_Hare_claimTold_95 ?_
          refine dk_get X q_Scene 18 4 (by decide) (oC_Scene g ad T S5) rfl f_Hare_174 d_Hare_claimTold_98 ?_
          refine dk_iload_n (k := 2) (i := 2) X 2 rfl rfl d_Hare_claimTold_101 ?_
          refine dk_iald X 20 (aC_20 g ad T S5) d_Hare_claimTold_102 hF (fun v8 hF => ?_)
          exact dk_reti hR hF d_Hare_claimTold_103
        · refine dk_if hF (fun hc2 hF => ?_) (fun hc2 hF => ?_)
          · refine dk_tsIn (v := 2) (tgt := 104) X d_Hare_claimTold_37 (by rw [hc2]; decide) (by decide) (by decide) rfl (by decide) ?_
            refine dk_aload_n (k := 0) (i := 0) X 0 rfl rfl d_Hare_claimTold_104 ?_
            refine dk_get X q_Hare 0 4 (by decide) (oC_Hare g ad T S5) rfl f_Hare_49 d_Hare_claimTold_105 ?_
            refine dk_get X q_Scene 18 5 (by decide) (oC_Scene g ad T S5) rfl f_Hare_177 d_Hare_claimTold_108 ?_
            refine dk_iload_n (k := 2) (i := 2) X 2 rfl rfl d_Hare_claimTold_111 ?_
            refine dk_iald X 21 (aC_21 g ad T S5) d_Hare_claimTold_112 hF (fun v9 hF => ?_)
            exact dk_reti hR hF d_Hare_claimTold_113
          · refine dk_if hF (fun hc3 hF => ?_) (fun hc3 hF => ?_)
            · refine dk_tsIn (v := 3) (tgt := 114) X d_Hare_claimTold_37 (by rw [hc3]; decide) (by decide) (by decide) rfl (by decide) ?_
              refine dk_aload_n (k := 0) (i := 0) X 0 rfl rfl d_Hare_claimTold_114 ?_
              refine dk_get X q_Hare 0 4 (by decide) (oC_Hare g ad T S5) rfl f_Hare_49 d_Hare_claimTold_115 ?_
              refine dk_get X q_Scene 18 6 (by decide) (oC_Scene g ad T S5) rfl f_Hare_178 d_Hare_claimTold_118 ?_
              refine dk_iload_n (k := 2) (i := 2) X 2 rfl rfl d_Hare_claimTold_121 ?_
              refine dk_iald X 22 (aC_22 g ad T S5) d_Hare_claimTold_122 hF (fun v10 hF => ?_)
              exact dk_reti hR hF d_Hare_claimTold_123
            · refine dk_if hF (fun hc4 hF => ?_) (fun hc4 hF => ?_)
              · refine dk_tsIn (v := 4) (tgt := 124) X d_Hare_claimTold_37 (by rw [hc4]; decide) (by decide) (by decide) rfl (by decide) ?_
                refine dk_aload_n (k := 0) (i := 0) X 0 rfl rfl d_Hare_claimTold_124 ?_
                refine dk_get X q_Hare 0 4 (by decide) (oC_Hare g ad T S5) rfl f_Hare_49 d_Hare_claimTold_125 ?_
                refine dk_get X q_Scene 18 7 (by decide) (oC_Scene g ad T S5) rfl f_Hare_181 d_Hare_claimTold_128 ?_
                refine dk_iload_n (k := 2) (i := 2) X 2 rfl rfl d_Hare_claimTold_131 ?_
                refine dk_iald X 23 (aC_23 g ad T S5) d_Hare_claimTold_132 hF (fun v11 hF => ?_)
                exact dk_reti hR hF d_Hare_claimTold_133
              · refine dk_if hF (fun hc5 hF => ?_) (fun hc5 hF => ?_)
                · refine dk_tsIn (v := 5) (tgt := 134) X d_Hare_claimTold_37 (by rw [hc5]; decide) (by decide) (by decide) rfl (by decide) ?_
                  refine dk_aload_n (k := 0) (i := 0) X 0 rfl rfl d_Hare_claimTold_134 ?_
                  refine dk_get X q_Hare 0 4 (by decide) (oC_Hare g ad T S5) rfl f_Hare_49 d_Hare_claimTold_135 ?_
                  refine dk_iload_n (k := 2) (i := 2) X 2 rfl rfl d_Hare_claimTold_138 ?_
                  refine dk_callVi X v_Scene_stands [.int x2] (c_Scene_stands l g ad T n x2 S5) 18 (oC_Scene g ad T S5) rfl rfl m_Hare_184 rfl rfl ⟨rfl, rfl, Nat.le_of_ble_eq_true rfl, Nat.le_of_ble_eq_true rfl, Nat.le_refl _, Nat.le_refl _⟩ (Nat.le_of_ble_eq_true rfl) d_Hare_claimTold_139 hF (fun r13 S12 hF => ?_)
                  refine dk_if_eq (tgt := 149) X (by decide) d_Hare_claimTold_142 hF (fun hF => ?_) (fun hF => ?_)
                  · refine dk_iconst (v := 0) X (by decide) d_Hare_claimTold_149 ?_
                    exact dk_reti hR hF d_Hare_claimTold_150
                  · refine dk_iconst (v := 1) X (by decide) d_Hare_claimTold_145 ?_
                    refine dk_goto (tgt := 150) X (by decide) d_Hare_claimTold_146 ?_
                    exact dk_reti hR hF d_Hare_claimTold_150
                · refine dk_if hF (fun hc6 hF => ?_) (fun hc6 hF => ?_)
                  · refine dk_tsIn (v := 6) (tgt := 151) X d_Hare_claimTold_37 (by rw [hc6]; decide) (by decide) (by decide) rfl (by decide) ?_
                    refine dk_aload_n (k := 0) (i := 0) X 0 rfl rfl d_Hare_claimTold_151 ?_
                    refine dk_get X q_Hare 0 4 (by decide) (oC_Hare g ad T S5) rfl f_Hare_49 d_Hare_claimTold_152 ?_
                    refine dk_iload_n (k := 2) (i := 2) X 2 rfl rfl d_Hare_claimTold_155 ?_
                    refine dk_callVi X v_Scene_weight [.int x2] (c_Scene_weight l g ad T n x2 S5) 18 (oC_Scene g ad T S5) rfl rfl m_Hare_187 rfl rfl ⟨rfl, rfl, Nat.le_of_ble_eq_true rfl, Nat.le_of_ble_eq_true rfl, Nat.le_refl _, Nat.le_refl _⟩ (Nat.le_of_ble_eq_true rfl) d_Hare_claimTold_156 hF (fun r15 S14 hF => ?_)
                    exact dk_reti hR hF d_Hare_claimTold_159
                  · refine dk_if hF (fun hc7 hF => ?_) (fun hc7 hF => ?_)
                    · refine dk_tsIn (v := 7) (tgt := 160) X d_Hare_claimTold_37 (by rw [hc7]; decide) (by decide) (by decide) rfl (by decide) ?_
                      refine dk_aload_n (k := 0) (i := 0) X 0 rfl rfl d_Hare_claimTold_160 ?_
                      refine dk_get X q_Hare 0 4 (by decide) (oC_Hare g ad T S5) rfl f_Hare_49 d_Hare_claimTold_161 ?_
                      refine dk_iload_n (k := 2) (i := 2) X 2 rfl rfl d_Hare_claimTold_164 ?_
                      refine dk_callVi X v_Scene_worth [.int x2] (c_Scene_worth l g ad T n x2 S5) 18 (oC_Scene g ad T S5) rfl rfl m_Hare_190 rfl rfl ⟨rfl, rfl, Nat.le_of_ble_eq_true rfl, Nat.le_of_ble_eq_true rfl, Nat.le_refl _, Nat.le_refl _⟩ (Nat.le_of_ble_eq_true rfl) d_Hare_claimTold_165 hF (fun r17 S16 hF => ?_)
                      exact dk_reti hR hF d_Hare_claimTold_168
                    · refine dk_tsOut (tgt := 169) X d_Hare_claimTold_37 (by have e0 := lv_neT hc0 (a := 0) (by decide); have e1 := lv_neT hc1 (a := 1) (by decide); have e2 := lv_neT hc2 (a := 2) (by decide); have e3 := lv_neT hc3 (a := 3) (by decide); have e4 := lv_neT hc4 (a := 4) (by decide); have e5 := lv_neT hc5 (a := 5) (by decide); have e6 := lv_neT hc6 (a := 6) (by decide); have e7 := lv_neT hc7 (a := 7) (by decide); omega) (by decide) ?_
                      refine dk_bipush (v := -7) X (by decide) d_Hare_claimTold_169 ?_
                      exact dk_reti hR hF d_Hare_claimTold_171
    · refine dk_bipush (v := -5) X (by decide) d_Hare_claimTold_33 ?_
      exact dk_reti hR hF d_Hare_claimTold_35
  · refine dk_bipush (v := -2) X (by decide) d_Hare_claimTold_11 ?_
    exact dk_reti hR hF d_Hare_claimTold_13
def F_Hare_claimTold (n T : Nat) (x1 : Int32) (x2 : Int32) (x3 : Int32) (S : dk_S) : Option (Int32 × dk_S) := B_Hare_claimTold_0 n T x1 x2 x3 S
theorem c_Hare_claimTold (l : Launch) (g : dk_G) (ad : Nat → Nat) (T n : Nat) (x1 : Int32) (x2 : Int32) (x3 : Int32)  (S : dk_S) : dk_Mi l g y_Hare_claimTold b_Hare_claimTold 4 rm_Hare_claimTold (some .int) [.ref (ad 0), .int x1, .int x2, .int x3] (wC g ad T) S (F_Hare_claimTold n T x1 x2 x3 S) := dk_enteri (by decide) (Nat.le_of_ble_eq_true rfl) (fun p e s m args below meth c A Q res hF X hR => (kb_Hare_claimTold_0 (n := n) X hR  hF))
abbrev b_Hare_whoseIs : ByteArray := prog_1_method_15_code
def y_Hare_whoseIs : MethodName := ⟨R_Hare, "whoseIs", "(II)I"⟩
theorem d_Hare_whoseIs_0 : decode b_Hare_whoseIs 0 = .ok (.aload_n 0, 1) := by decide +kernel
theorem d_Hare_whoseIs_1 : decode b_Hare_whoseIs 1 = .ok (.getfield 10, 3) := by decide +kernel
theorem d_Hare_whoseIs_4 : decode b_Hare_whoseIs 4 = .ok (.iload_n 1, 1) := by decide +kernel
theorem d_Hare_whoseIs_5 : decode b_Hare_whoseIs 5 = .ok (.invokevirtual 97, 3) := by decide +kernel
theorem d_Hare_whoseIs_8 : decode b_Hare_whoseIs 8 = .ok (.ifCond .ne 6, 3) := by decide +kernel
theorem d_Hare_whoseIs_11 : decode b_Hare_whoseIs 11 = .ok (.bipush (-5), 2) := by decide +kernel
theorem d_Hare_whoseIs_13 : decode b_Hare_whoseIs 13 = .ok (.ireturn, 1) := by decide +kernel
theorem d_Hare_whoseIs_14 : decode b_Hare_whoseIs 14 = .ok (.aload_n 0, 1) := by decide +kernel
theorem d_Hare_whoseIs_15 : decode b_Hare_whoseIs 15 = .ok (.getfield 19, 3) := by decide +kernel
theorem d_Hare_whoseIs_18 : decode b_Hare_whoseIs 18 = .ok (.iload_n 2, 1) := by decide +kernel
theorem d_Hare_whoseIs_19 : decode b_Hare_whoseIs 19 = .ok (.invokevirtual 163, 3) := by decide +kernel
theorem d_Hare_whoseIs_22 : decode b_Hare_whoseIs 22 = .ok (.ifCond .ne 6, 3) := by decide +kernel
theorem d_Hare_whoseIs_25 : decode b_Hare_whoseIs 25 = .ok (.bipush (-7), 2) := by decide +kernel
theorem d_Hare_whoseIs_27 : decode b_Hare_whoseIs 27 = .ok (.ireturn, 1) := by decide +kernel
theorem d_Hare_whoseIs_28 : decode b_Hare_whoseIs 28 = .ok (.aload_n 0, 1) := by decide +kernel
theorem d_Hare_whoseIs_29 : decode b_Hare_whoseIs 29 = .ok (.getfield 49, 3) := by decide +kernel
theorem d_Hare_whoseIs_32 : decode b_Hare_whoseIs 32 = .ok (.iload_n 2, 1) := by decide +kernel
theorem d_Hare_whoseIs_33 : decode b_Hare_whoseIs 33 = .ok (.invokevirtual 166, 3) := by decide +kernel
theorem d_Hare_whoseIs_36 : decode b_Hare_whoseIs 36 = .ok (.aload_n 0, 1) := by decide +kernel
theorem d_Hare_whoseIs_37 : decode b_Hare_whoseIs 37 = .ok (.getfield 49, 3) := by decide +kernel
theorem d_Hare_whoseIs_40 : decode b_Hare_whoseIs 40 = .ok (.iload_n 1, 1) := by decide +kernel
theorem d_Hare_whoseIs_41 : decode b_Hare_whoseIs 41 = .ok (.invokevirtual 193, 3) := by decide +kernel
theorem d_Hare_whoseIs_44 : decode b_Hare_whoseIs 44 = .ok (.ireturn, 1) := by decide +kernel
theorem v_Hare_whoseIs : dk_Yv y_Hare_whoseIs b_Hare_whoseIs 3 (some .int) 2 := ⟨dk_in (List.mem_of_getElem? (i := 778) (by decide +kernel)) rfl, dk_in (List.mem_of_getElem? (i := 779) (by decide +kernel)) rfl, dk_in (List.mem_of_getElem? (i := 66) (by decide +kernel)) rfl, dk_in (List.mem_of_getElem? (i := 780) (by decide +kernel)) rfl, by decide +kernel, by decide +kernel, by decide +kernel⟩
abbrev rm_Hare_whoseIs : Room := { frames := 6, cells := 0, slots := 0, locals := 137 }
theorem m_Hare_193 : Cond.methodLink R_Hare 193 y_Scene_possessor ∈ dk_tb := dk_in (List.mem_of_getElem? (i := 781) (by decide +kernel)) rfl
def B_Hare_whoseIs_0 (n T : Nat)  (x1 : Int32) (x2 : Int32) (S : dk_S) : Option (Int32 × dk_S) :=
  dk_c (F_Land_hasBeast n T x1 S) fun r2 S1 => if ¬ r2 = 0 then (dk_c (F_Diary_reaches n T x2 S1) fun r4 S3 => if ¬ r4 = 0 then (dk_cv (F_Scene_reach n T x2 S3) fun S5 => dk_c (F_Scene_possessor n T x1 S5) fun r8 S7 => some (r8, S7)) else (some ((-7 : Int32), S3))) else (some ((-5 : Int32), S1))
set_option maxRecDepth 20000 in
theorem kb_Hare_whoseIs_0 {p : Program} {l : Launch} {e : Env} {s : State} {m : MethodId} {args : Array Value} {below : List Frame} {meth : Method} {c : Code} {g : dk_G} {A : Nat → Prop} {Q : State → Prop} {ad : Nat → Nat} {T : Nat} {n : Nat} {res : (Int32 × dk_S)} (X : dk_X p s m args meth c b_Hare_whoseIs 3 R_Hare (some .int) g A) (hR : dk_Ri p l e rm_Hare_whoseIs s m args below meth c g A Q 3 b_Hare_whoseIs (some .int) (wC g ad T) res)  {x1 : Int32} {x2 : Int32} {S : dk_S}  (hF : B_Hare_whoseIs_0 n T  x1 x2 S = some res) : dk_J p l e rm_Hare_whoseIs s m args below meth c g A Q 3 0 0 0 [(0, .ref (ad 0)), (1, .int x1), (2, .int x2)] [] (wC g ad T S) := by
  unfold B_Hare_whoseIs_0 at hF
  refine dk_aload_n (k := 0) (i := 0) X 0 rfl rfl d_Hare_whoseIs_0 ?_
  refine dk_get X q_Hare 0 0 (by decide) (oC_Hare g ad T S) rfl f_Hare_10 d_Hare_whoseIs_1 ?_
  refine dk_iload_n (k := 1) (i := 1) X 1 rfl rfl d_Hare_whoseIs_4 ?_
  refine dk_callVi X v_Land_hasBeast [.int x1] (c_Land_hasBeast l g ad T n x1 S) 1 (oC_Land g ad T S) rfl rfl m_Hare_97 rfl rfl ⟨rfl, rfl, Nat.le_of_ble_eq_true rfl, Nat.le_of_ble_eq_true rfl, Nat.le_refl _, Nat.le_refl _⟩ (Nat.le_of_ble_eq_true rfl) d_Hare_whoseIs_5 hF (fun r2 S1 hF => ?_)
  refine dk_if_ne (tgt := 14) X (by decide) d_Hare_whoseIs_8 hF (fun hF => ?_) (fun hF => ?_)
  · refine dk_aload_n (k := 0) (i := 0) X 0 rfl rfl d_Hare_whoseIs_14 ?_
    refine dk_get X q_Hare 0 1 (by decide) (oC_Hare g ad T S1) rfl f_Hare_19 d_Hare_whoseIs_15 ?_
    refine dk_iload_n (k := 2) (i := 2) X 2 rfl rfl d_Hare_whoseIs_18 ?_
    refine dk_callVi X v_Diary_reaches [.int x2] (c_Diary_reaches l g ad T n x2 S1) 5 (oC_Diary g ad T S1) rfl rfl m_Hare_163 rfl rfl ⟨rfl, rfl, Nat.le_of_ble_eq_true rfl, Nat.le_of_ble_eq_true rfl, Nat.le_refl _, Nat.le_refl _⟩ (Nat.le_of_ble_eq_true rfl) d_Hare_whoseIs_19 hF (fun r4 S3 hF => ?_)
    refine dk_if_ne (tgt := 28) X (by decide) d_Hare_whoseIs_22 hF (fun hF => ?_) (fun hF => ?_)
    · refine dk_aload_n (k := 0) (i := 0) X 0 rfl rfl d_Hare_whoseIs_28 ?_
      refine dk_get X q_Hare 0 4 (by decide) (oC_Hare g ad T S3) rfl f_Hare_49 d_Hare_whoseIs_29 ?_
      refine dk_iload_n (k := 2) (i := 2) X 2 rfl rfl d_Hare_whoseIs_32 ?_
      refine dk_callVv X v_Scene_reach [.int x2] (c_Scene_reach l g ad T n x2 S3) 18 (oC_Scene g ad T S3) rfl rfl m_Hare_166 rfl rfl ⟨rfl, rfl, Nat.le_of_ble_eq_true rfl, Nat.le_of_ble_eq_true rfl, Nat.le_refl _, Nat.le_refl _⟩ (Nat.le_of_ble_eq_true rfl) d_Hare_whoseIs_33 hF (fun S5 hF => ?_)
      refine dk_aload_n (k := 0) (i := 0) X 0 rfl rfl d_Hare_whoseIs_36 ?_
      refine dk_get X q_Hare 0 4 (by decide) (oC_Hare g ad T S5) rfl f_Hare_49 d_Hare_whoseIs_37 ?_
      refine dk_iload_n (k := 1) (i := 1) X 1 rfl rfl d_Hare_whoseIs_40 ?_
      refine dk_callVi X v_Scene_possessor [.int x1] (c_Scene_possessor l g ad T n x1 S5) 18 (oC_Scene g ad T S5) rfl rfl m_Hare_193 rfl rfl ⟨rfl, rfl, Nat.le_of_ble_eq_true rfl, Nat.le_of_ble_eq_true rfl, Nat.le_refl _, Nat.le_refl _⟩ (Nat.le_of_ble_eq_true rfl) d_Hare_whoseIs_41 hF (fun r8 S7 hF => ?_)
      exact dk_reti hR hF d_Hare_whoseIs_44
    · refine dk_bipush (v := -7) X (by decide) d_Hare_whoseIs_25 ?_
      exact dk_reti hR hF d_Hare_whoseIs_27
  · refine dk_bipush (v := -5) X (by decide) d_Hare_whoseIs_11 ?_
    exact dk_reti hR hF d_Hare_whoseIs_13
def F_Hare_whoseIs (n T : Nat) (x1 : Int32) (x2 : Int32) (S : dk_S) : Option (Int32 × dk_S) := B_Hare_whoseIs_0 n T x1 x2 S
theorem c_Hare_whoseIs (l : Launch) (g : dk_G) (ad : Nat → Nat) (T n : Nat) (x1 : Int32) (x2 : Int32)  (S : dk_S) : dk_Mi l g y_Hare_whoseIs b_Hare_whoseIs 3 rm_Hare_whoseIs (some .int) [.ref (ad 0), .int x1, .int x2] (wC g ad T) S (F_Hare_whoseIs n T x1 x2 S) := dk_enteri (by decide) (Nat.le_of_ble_eq_true rfl) (fun p e s m args below meth c A Q res hF X hR => (kb_Hare_whoseIs_0 (n := n) X hR  hF))
abbrev b_Hare_why : ByteArray := prog_1_method_16_code
def y_Hare_why : MethodName := ⟨R_Hare, "why", "(II)I"⟩
theorem d_Hare_why_0 : decode b_Hare_why 0 = .ok (.aload_n 0, 1) := by decide +kernel
theorem d_Hare_why_1 : decode b_Hare_why 1 = .ok (.getfield 10, 3) := by decide +kernel
theorem d_Hare_why_4 : decode b_Hare_why 4 = .ok (.iload_n 1, 1) := by decide +kernel
theorem d_Hare_why_5 : decode b_Hare_why 5 = .ok (.invokevirtual 97, 3) := by decide +kernel
theorem d_Hare_why_8 : decode b_Hare_why 8 = .ok (.ifCond .ne 6, 3) := by decide +kernel
theorem d_Hare_why_11 : decode b_Hare_why 11 = .ok (.bipush (-5), 2) := by decide +kernel
theorem d_Hare_why_13 : decode b_Hare_why 13 = .ok (.ireturn, 1) := by decide +kernel
theorem d_Hare_why_14 : decode b_Hare_why 14 = .ok (.aload_n 0, 1) := by decide +kernel
theorem d_Hare_why_15 : decode b_Hare_why 15 = .ok (.getfield 19, 3) := by decide +kernel
theorem d_Hare_why_18 : decode b_Hare_why 18 = .ok (.iload_n 2, 1) := by decide +kernel
theorem d_Hare_why_19 : decode b_Hare_why 19 = .ok (.invokevirtual 163, 3) := by decide +kernel
theorem d_Hare_why_22 : decode b_Hare_why 22 = .ok (.ifCond .ne 6, 3) := by decide +kernel
theorem d_Hare_why_25 : decode b_Hare_why 25 = .ok (.bipush (-7), 2) := by decide +kernel
theorem d_Hare_why_27 : decode b_Hare_why 27 = .ok (.ireturn, 1) := by decide +kernel
theorem d_Hare_why_28 : decode b_Hare_why 28 = .ok (.aload_n 0, 1) := by decide +kernel
theorem d_Hare_why_29 : decode b_Hare_why 29 = .ok (.getfield 49, 3) := by decide +kernel
theorem d_Hare_why_32 : decode b_Hare_why 32 = .ok (.iload_n 2, 1) := by decide +kernel
theorem d_Hare_why_33 : decode b_Hare_why 33 = .ok (.invokevirtual 166, 3) := by decide +kernel
theorem d_Hare_why_36 : decode b_Hare_why 36 = .ok (.aload_n 0, 1) := by decide +kernel
theorem d_Hare_why_37 : decode b_Hare_why 37 = .ok (.getfield 49, 3) := by decide +kernel
theorem d_Hare_why_40 : decode b_Hare_why 40 = .ok (.iload_n 1, 1) := by decide +kernel
theorem d_Hare_why_41 : decode b_Hare_why 41 = .ok (.invokevirtual 196, 3) := by decide +kernel
theorem d_Hare_why_44 : decode b_Hare_why 44 = .ok (.aload_n 0, 1) := by decide +kernel
theorem d_Hare_why_45 : decode b_Hare_why 45 = .ok (.getfield 49, 3) := by decide +kernel
theorem d_Hare_why_48 : decode b_Hare_why 48 = .ok (.getfield 199, 3) := by decide +kernel
theorem d_Hare_why_51 : decode b_Hare_why 51 = .ok (.ireturn, 1) := by decide +kernel
theorem v_Hare_why : dk_Yv y_Hare_why b_Hare_why 3 (some .int) 2 := ⟨dk_in (List.mem_of_getElem? (i := 792) (by decide +kernel)) rfl, dk_in (List.mem_of_getElem? (i := 793) (by decide +kernel)) rfl, dk_in (List.mem_of_getElem? (i := 66) (by decide +kernel)) rfl, dk_in (List.mem_of_getElem? (i := 794) (by decide +kernel)) rfl, by decide +kernel, by decide +kernel, by decide +kernel⟩
abbrev rm_Hare_why : Room := { frames := 5, cells := 0, slots := 0, locals := 118 }
theorem f_Hare_199 : Cond.fieldLink R_Hare 199 (T_Scene 16).1 (T_Scene 16).2.1 (T_Scene 16).2.2.1 ∈ dk_tb := dk_in (List.mem_of_getElem? (i := 275) (by decide +kernel)) rfl
theorem m_Hare_196 : Cond.methodLink R_Hare 196 y_Scene_weigh ∈ dk_tb := dk_in (List.mem_of_getElem? (i := 795) (by decide +kernel)) rfl
def B_Hare_why_0 (n T : Nat)  (x1 : Int32) (x2 : Int32) (S : dk_S) : Option (Int32 × dk_S) :=
  dk_c (F_Land_hasBeast n T x1 S) fun r2 S1 => if ¬ r2 = 0 then (dk_c (F_Diary_reaches n T x2 S1) fun r4 S3 => if ¬ r4 = 0 then (dk_cv (F_Scene_reach n T x2 S3) fun S5 => dk_cv (F_Scene_weigh n T x1 S5) fun S7 => some ((S7 117 0), S7)) else (some ((-7 : Int32), S3))) else (some ((-5 : Int32), S1))
set_option maxRecDepth 20000 in
theorem kb_Hare_why_0 {p : Program} {l : Launch} {e : Env} {s : State} {m : MethodId} {args : Array Value} {below : List Frame} {meth : Method} {c : Code} {g : dk_G} {A : Nat → Prop} {Q : State → Prop} {ad : Nat → Nat} {T : Nat} {n : Nat} {res : (Int32 × dk_S)} (X : dk_X p s m args meth c b_Hare_why 3 R_Hare (some .int) g A) (hR : dk_Ri p l e rm_Hare_why s m args below meth c g A Q 3 b_Hare_why (some .int) (wC g ad T) res)  {x1 : Int32} {x2 : Int32} {S : dk_S}  (hF : B_Hare_why_0 n T  x1 x2 S = some res) : dk_J p l e rm_Hare_why s m args below meth c g A Q 3 0 0 0 [(0, .ref (ad 0)), (1, .int x1), (2, .int x2)] [] (wC g ad T S) := by
  unfold B_Hare_why_0 at hF
  refine dk_aload_n (k := 0) (i := 0) X 0 rfl rfl d_Hare_why_0 ?_
  refine dk_get X q_Hare 0 0 (by decide) (oC_Hare g ad T S) rfl f_Hare_10 d_Hare_why_1 ?_
  refine dk_iload_n (k := 1) (i := 1) X 1 rfl rfl d_Hare_why_4 ?_
  refine dk_callVi X v_Land_hasBeast [.int x1] (c_Land_hasBeast l g ad T n x1 S) 1 (oC_Land g ad T S) rfl rfl m_Hare_97 rfl rfl ⟨rfl, rfl, Nat.le_of_ble_eq_true rfl, Nat.le_of_ble_eq_true rfl, Nat.le_refl _, Nat.le_refl _⟩ (Nat.le_of_ble_eq_true rfl) d_Hare_why_5 hF (fun r2 S1 hF => ?_)
  refine dk_if_ne (tgt := 14) X (by decide) d_Hare_why_8 hF (fun hF => ?_) (fun hF => ?_)
  · refine dk_aload_n (k := 0) (i := 0) X 0 rfl rfl d_Hare_why_14 ?_
    refine dk_get X q_Hare 0 1 (by decide) (oC_Hare g ad T S1) rfl f_Hare_19 d_Hare_why_15 ?_
    refine dk_iload_n (k := 2) (i := 2) X 2 rfl rfl d_Hare_why_18 ?_
    refine dk_callVi X v_Diary_reaches [.int x2] (c_Diary_reaches l g ad T n x2 S1) 5 (oC_Diary g ad T S1) rfl rfl m_Hare_163 rfl rfl ⟨rfl, rfl, Nat.le_of_ble_eq_true rfl, Nat.le_of_ble_eq_true rfl, Nat.le_refl _, Nat.le_refl _⟩ (Nat.le_of_ble_eq_true rfl) d_Hare_why_19 hF (fun r4 S3 hF => ?_)
    refine dk_if_ne (tgt := 28) X (by decide) d_Hare_why_22 hF (fun hF => ?_) (fun hF => ?_)
    · refine dk_aload_n (k := 0) (i := 0) X 0 rfl rfl d_Hare_why_28 ?_
      refine dk_get X q_Hare 0 4 (by decide) (oC_Hare g ad T S3) rfl f_Hare_49 d_Hare_why_29 ?_
      refine dk_iload_n (k := 2) (i := 2) X 2 rfl rfl d_Hare_why_32 ?_
      refine dk_callVv X v_Scene_reach [.int x2] (c_Scene_reach l g ad T n x2 S3) 18 (oC_Scene g ad T S3) rfl rfl m_Hare_166 rfl rfl ⟨rfl, rfl, Nat.le_of_ble_eq_true rfl, Nat.le_of_ble_eq_true rfl, Nat.le_refl _, Nat.le_refl _⟩ (Nat.le_of_ble_eq_true rfl) d_Hare_why_33 hF (fun S5 hF => ?_)
      refine dk_aload_n (k := 0) (i := 0) X 0 rfl rfl d_Hare_why_36 ?_
      refine dk_get X q_Hare 0 4 (by decide) (oC_Hare g ad T S5) rfl f_Hare_49 d_Hare_why_37 ?_
      refine dk_iload_n (k := 1) (i := 1) X 1 rfl rfl d_Hare_why_40 ?_
      refine dk_callVv X v_Scene_weigh [.int x1] (c_Scene_weigh l g ad T n x1 S5) 18 (oC_Scene g ad T S5) rfl rfl m_Hare_196 rfl rfl ⟨rfl, rfl, Nat.le_of_ble_eq_true rfl, Nat.le_of_ble_eq_true rfl, Nat.le_refl _, Nat.le_refl _⟩ (Nat.le_of_ble_eq_true rfl) d_Hare_why_41 hF (fun S7 hF => ?_)
      refine dk_aload_n (k := 0) (i := 0) X 0 rfl rfl d_Hare_why_44 ?_
      refine dk_get X q_Hare 0 4 (by decide) (oC_Hare g ad T S7) rfl f_Hare_49 d_Hare_why_45 ?_
      refine dk_get X q_Scene 18 16 (by decide) (oC_Scene g ad T S7) rfl f_Hare_199 d_Hare_why_48 ?_
      exact dk_reti hR hF d_Hare_why_51
    · refine dk_bipush (v := -7) X (by decide) d_Hare_why_25 ?_
      exact dk_reti hR hF d_Hare_why_27
  · refine dk_bipush (v := -5) X (by decide) d_Hare_why_11 ?_
    exact dk_reti hR hF d_Hare_why_13
def F_Hare_why (n T : Nat) (x1 : Int32) (x2 : Int32) (S : dk_S) : Option (Int32 × dk_S) := B_Hare_why_0 n T x1 x2 S
theorem c_Hare_why (l : Launch) (g : dk_G) (ad : Nat → Nat) (T n : Nat) (x1 : Int32) (x2 : Int32)  (S : dk_S) : dk_Mi l g y_Hare_why b_Hare_why 3 rm_Hare_why (some .int) [.ref (ad 0), .int x1, .int x2] (wC g ad T) S (F_Hare_why n T x1 x2 S) := dk_enteri (by decide) (Nat.le_of_ble_eq_true rfl) (fun p e s m args below meth c A Q res hF X hR => (kb_Hare_why_0 (n := n) X hR  hF))
abbrev b_Hare_where : ByteArray := prog_1_method_17_code
def y_Hare_where : MethodName := ⟨R_Hare, "where", "(III)I"⟩
theorem d_Hare_where_0 : decode b_Hare_where 0 = .ok (.aload_n 0, 1) := by decide +kernel
theorem d_Hare_where_1 : decode b_Hare_where 1 = .ok (.getfield 10, 3) := by decide +kernel
theorem d_Hare_where_4 : decode b_Hare_where 4 = .ok (.iload_n 1, 1) := by decide +kernel
theorem d_Hare_where_5 : decode b_Hare_where 5 = .ok (.invokevirtual 97, 3) := by decide +kernel
theorem d_Hare_where_8 : decode b_Hare_where 8 = .ok (.ifCond .ne 6, 3) := by decide +kernel
theorem d_Hare_where_11 : decode b_Hare_where 11 = .ok (.bipush (-5), 2) := by decide +kernel
theorem d_Hare_where_13 : decode b_Hare_where 13 = .ok (.ireturn, 1) := by decide +kernel
theorem d_Hare_where_14 : decode b_Hare_where 14 = .ok (.aload_n 0, 1) := by decide +kernel
theorem d_Hare_where_15 : decode b_Hare_where 15 = .ok (.getfield 19, 3) := by decide +kernel
theorem d_Hare_where_18 : decode b_Hare_where 18 = .ok (.iload_n 2, 1) := by decide +kernel
theorem d_Hare_where_19 : decode b_Hare_where 19 = .ok (.invokevirtual 163, 3) := by decide +kernel
theorem d_Hare_where_22 : decode b_Hare_where 22 = .ok (.ifCond .ne 6, 3) := by decide +kernel
theorem d_Hare_where_25 : decode b_Hare_where 25 = .ok (.bipush (-7), 2) := by decide +kernel
theorem d_Hare_where_27 : decode b_Hare_where 27 = .ok (.ireturn, 1) := by decide +kernel
theorem d_Hare_where_28 : decode b_Hare_where 28 = .ok (.aload_n 0, 1) := by decide +kernel
theorem d_Hare_where_29 : decode b_Hare_where 29 = .ok (.getfield 49, 3) := by decide +kernel
theorem d_Hare_where_32 : decode b_Hare_where 32 = .ok (.iload_n 2, 1) := by decide +kernel
theorem d_Hare_where_33 : decode b_Hare_where 33 = .ok (.invokevirtual 166, 3) := by decide +kernel
theorem d_Hare_where_36 : decode b_Hare_where 36 = .ok (.iload_n 3, 1) := by decide +kernel
theorem d_Hare_where_37 : decode b_Hare_where 37 = .ok (.tableswitch 65 0 2 #[27, 37, 47], 27) := by decide +kernel
theorem d_Hare_where_64 : decode b_Hare_where 64 = .ok (.aload_n 0, 1) := by decide +kernel
theorem d_Hare_where_65 : decode b_Hare_where 65 = .ok (.getfield 49, 3) := by decide +kernel
theorem d_Hare_where_68 : decode b_Hare_where 68 = .ok (.getfield 202, 3) := by decide +kernel
theorem d_Hare_where_71 : decode b_Hare_where 71 = .ok (.iload_n 1, 1) := by decide +kernel
theorem d_Hare_where_72 : decode b_Hare_where 72 = .ok (.iaload, 1) := by decide +kernel
theorem d_Hare_where_73 : decode b_Hare_where 73 = .ok (.ireturn, 1) := by decide +kernel
theorem d_Hare_where_74 : decode b_Hare_where 74 = .ok (.aload_n 0, 1) := by decide +kernel
theorem d_Hare_where_75 : decode b_Hare_where 75 = .ok (.getfield 49, 3) := by decide +kernel
theorem d_Hare_where_78 : decode b_Hare_where 78 = .ok (.getfield 205, 3) := by decide +kernel
theorem d_Hare_where_81 : decode b_Hare_where 81 = .ok (.iload_n 1, 1) := by decide +kernel
theorem d_Hare_where_82 : decode b_Hare_where 82 = .ok (.iaload, 1) := by decide +kernel
theorem d_Hare_where_83 : decode b_Hare_where 83 = .ok (.ireturn, 1) := by decide +kernel
theorem d_Hare_where_84 : decode b_Hare_where 84 = .ok (.aload_n 0, 1) := by decide +kernel
theorem d_Hare_where_85 : decode b_Hare_where 85 = .ok (.getfield 49, 3) := by decide +kernel
theorem d_Hare_where_88 : decode b_Hare_where 88 = .ok (.getfield 208, 3) := by decide +kernel
theorem d_Hare_where_91 : decode b_Hare_where 91 = .ok (.iload_n 1, 1) := by decide +kernel
theorem d_Hare_where_92 : decode b_Hare_where 92 = .ok (.baload, 1) := by decide +kernel
theorem d_Hare_where_93 : decode b_Hare_where 93 = .ok (.ifCond .eq 7, 3) := by decide +kernel
theorem d_Hare_where_96 : decode b_Hare_where 96 = .ok (.iconst 1, 1) := by decide +kernel
theorem d_Hare_where_97 : decode b_Hare_where 97 = .ok (.goto 4, 3) := by decide +kernel
theorem d_Hare_where_100 : decode b_Hare_where 100 = .ok (.iconst 0, 1) := by decide +kernel
theorem d_Hare_where_101 : decode b_Hare_where 101 = .ok (.ireturn, 1) := by decide +kernel
theorem d_Hare_where_102 : decode b_Hare_where 102 = .ok (.bipush (-7), 2) := by decide +kernel
theorem d_Hare_where_104 : decode b_Hare_where 104 = .ok (.ireturn, 1) := by decide +kernel
theorem v_Hare_where : dk_Yv y_Hare_where b_Hare_where 4 (some .int) 3 := ⟨dk_in (List.mem_of_getElem? (i := 797) (by decide +kernel)) rfl, dk_in (List.mem_of_getElem? (i := 798) (by decide +kernel)) rfl, dk_in (List.mem_of_getElem? (i := 66) (by decide +kernel)) rfl, dk_in (List.mem_of_getElem? (i := 799) (by decide +kernel)) rfl, by decide +kernel, by decide +kernel, by decide +kernel⟩
abbrev rm_Hare_where : Room := { frames := 5, cells := 0, slots := 0, locals := 118 }
theorem f_Hare_202 : Cond.fieldLink R_Hare 202 (T_Scene 13).1 (T_Scene 13).2.1 (T_Scene 13).2.2.1 ∈ dk_tb := dk_in (List.mem_of_getElem? (i := 270) (by decide +kernel)) rfl
theorem f_Hare_205 : Cond.fieldLink R_Hare 205 (T_Scene 14).1 (T_Scene 14).2.1 (T_Scene 14).2.2.1 ∈ dk_tb := dk_in (List.mem_of_getElem? (i := 272) (by decide +kernel)) rfl
theorem f_Hare_208 : Cond.fieldLink R_Hare 208 (T_Scene 15).1 (T_Scene 15).2.1 (T_Scene 15).2.2.1 ∈ dk_tb := dk_in (List.mem_of_getElem? (i := 274) (by decide +kernel)) rfl
def B_Hare_where_0 (n T : Nat)  (x1 : Int32) (x2 : Int32) (x3 : Int32) (S : dk_S) : Option (Int32 × dk_S) :=
  dk_c (F_Land_hasBeast n T x1 S) fun r2 S1 => if ¬ r2 = 0 then (dk_c (F_Diary_reaches n T x2 S1) fun r4 S3 => if ¬ r4 = 0 then (dk_cv (F_Scene_reach n T x2 S3) fun S5 => if x3 = (0 : Int32) then (dk_r 6 (S5 27) x1 fun v7 => some (v7, S5)) else (if x3 = (1 : Int32) then (dk_r 6 (S5 28) x1 fun v8 => some (v8, S5)) else (if x3 = (2 : Int32) then (dk_r 6 (S5 29) x1 fun v9 => if v9 = 0 then (some ((0 : Int32), S5)) else (some ((1 : Int32), S5))) else (some ((-7 : Int32), S5))))) else (some ((-7 : Int32), S3))) else (some ((-5 : Int32), S1))
set_option maxRecDepth 20000 in
theorem kb_Hare_where_0 {p : Program} {l : Launch} {e : Env} {s : State} {m : MethodId} {args : Array Value} {below : List Frame} {meth : Method} {c : Code} {g : dk_G} {A : Nat → Prop} {Q : State → Prop} {ad : Nat → Nat} {T : Nat} {n : Nat} {res : (Int32 × dk_S)} (X : dk_X p s m args meth c b_Hare_where 4 R_Hare (some .int) g A) (hR : dk_Ri p l e rm_Hare_where s m args below meth c g A Q 4 b_Hare_where (some .int) (wC g ad T) res)  {x1 : Int32} {x2 : Int32} {x3 : Int32} {S : dk_S}  (hF : B_Hare_where_0 n T  x1 x2 x3 S = some res) : dk_J p l e rm_Hare_where s m args below meth c g A Q 4 0 0 0 [(0, .ref (ad 0)), (1, .int x1), (2, .int x2), (3, .int x3)] [] (wC g ad T S) := by
  unfold B_Hare_where_0 at hF
  refine dk_aload_n (k := 0) (i := 0) X 0 rfl rfl d_Hare_where_0 ?_
  refine dk_get X q_Hare 0 0 (by decide) (oC_Hare g ad T S) rfl f_Hare_10 d_Hare_where_1 ?_
  refine dk_iload_n (k := 1) (i := 1) X 1 rfl rfl d_Hare_where_4 ?_
  refine dk_callVi X v_Land_hasBeast [.int x1] (c_Land_hasBeast l g ad T n x1 S) 1 (oC_Land g ad T S) rfl rfl m_Hare_97 rfl rfl ⟨rfl, rfl, Nat.le_of_ble_eq_true rfl, Nat.le_of_ble_eq_true rfl, Nat.le_refl _, Nat.le_refl _⟩ (Nat.le_of_ble_eq_true rfl) d_Hare_where_5 hF (fun r2 S1 hF => ?_)
  refine dk_if_ne (tgt := 14) X (by decide) d_Hare_where_8 hF (fun hF => ?_) (fun hF => ?_)
  · refine dk_aload_n (k := 0) (i := 0) X 0 rfl rfl d_Hare_where_14 ?_
    refine dk_get X q_Hare 0 1 (by decide) (oC_Hare g ad T S1) rfl f_Hare_19 d_Hare_where_15 ?_
    refine dk_iload_n (k := 2) (i := 2) X 2 rfl rfl d_Hare_where_18 ?_
    refine dk_callVi X v_Diary_reaches [.int x2] (c_Diary_reaches l g ad T n x2 S1) 5 (oC_Diary g ad T S1) rfl rfl m_Hare_163 rfl rfl ⟨rfl, rfl, Nat.le_of_ble_eq_true rfl, Nat.le_of_ble_eq_true rfl, Nat.le_refl _, Nat.le_refl _⟩ (Nat.le_of_ble_eq_true rfl) d_Hare_where_19 hF (fun r4 S3 hF => ?_)
    refine dk_if_ne (tgt := 28) X (by decide) d_Hare_where_22 hF (fun hF => ?_) (fun hF => ?_)
    · refine dk_aload_n (k := 0) (i := 0) X 0 rfl rfl d_Hare_where_28 ?_
      refine dk_get X q_Hare 0 4 (by decide) (oC_Hare g ad T S3) rfl f_Hare_49 d_Hare_where_29 ?_
      refine dk_iload_n (k := 2) (i := 2) X 2 rfl rfl d_Hare_where_32 ?_
      refine dk_callVv X v_Scene_reach [.int x2] (c_Scene_reach l g ad T n x2 S3) 18 (oC_Scene g ad T S3) rfl rfl m_Hare_166 rfl rfl ⟨rfl, rfl, Nat.le_of_ble_eq_true rfl, Nat.le_of_ble_eq_true rfl, Nat.le_refl _, Nat.le_refl _⟩ (Nat.le_of_ble_eq_true rfl) d_Hare_where_33 hF (fun S5 hF => ?_)
      refine dk_iload_n (k := 3) (i := 3) X 3 rfl rfl d_Hare_where_36 ?_
      refine dk_if hF (fun hc0 hF => ?_) (fun hc0 hF => ?_)
      · refine dk_tsIn (v := 0) (tgt := 64) X d_Hare_where_37 (by rw [hc0]; decide) (by decide) (by decide) rfl (by decide) ?_
        refine dk_aload_n (k := 0) (i := 0) X 0 rfl rfl d_Hare_where_64 ?_
        refine dk_get X q_Hare 0 4 (by decide) (oC_Hare g ad T S5) rfl f_Hare_49 d_Hare_where_65 ?_
        refine dk_get X q_Scene 18 13 (by decide) (oC_Scene g ad T S5) rfl f_Hare_202 d_Hare_where_68 ?_
        refine dk_iload_n (k := 1) (i := 1) X 1 rfl rfl d_Hare_where_71 ?_
        refine dk_iald X 27 (aC_27 g ad T S5) d_Hare_where_72 hF (fun v7 hF => ?_)
        exact dk_reti hR hF d_Hare_where_73
      · refine dk_if hF (fun hc1 hF => ?_) (fun hc1 hF => ?_)
        · refine dk_tsIn (v := 1) (tgt := 74) X d_Hare_where_37 (by rw [hc1]; decide) (by decide) (by decide) rfl (by decide) ?_
          refine dk_aload_n (k := 0) (i := 0) X 0 rfl rfl d_Hare_where_74 ?_
          refine dk_get X q_Hare 0 4 (by decide) (oC_Hare g ad T S5) rfl f_Hare_49 d_Hare_where_75 ?_
          refine dk_get X q_Scene 18 14 (by decide) (oC_Scene g ad T S5) rfl f_Hare_205 d_Hare_where_78 ?_
          refine dk_iload_n (k := 1) (i := 1) X 1 rfl rfl d_Hare_where_81 ?_
          refine dk_iald X 28 (aC_28 g ad T S5) d_Hare_where_82 hF (fun v8 hF => ?_)
          exact dk_reti hR hF d_Hare_where_83
        · refine dk_if hF (fun hc2 hF => ?_) (fun hc2 hF => ?_)
          · refine dk_tsIn (v := 2) (tgt := 84) X d_Hare_where_37 (by rw [hc2]; decide) (by decide) (by decide) rfl (by decide) ?_
            refine dk_aload_n (k := 0) (i := 0) X 0 rfl rfl d_Hare_where_84 ?_
            refine dk_get X q_Hare 0 4 (by decide) (oC_Hare g ad T S5) rfl f_Hare_49 d_Hare_where_85 ?_
            refine dk_get X q_Scene 18 15 (by decide) (oC_Scene g ad T S5) rfl f_Hare_208 d_Hare_where_88 ?_
            refine dk_iload_n (k := 1) (i := 1) X 1 rfl rfl d_Hare_where_91 ?_
            refine dk_zald X 29 (aC_29 g ad T S5) d_Hare_where_92 hF (fun v9 hF => ?_)
            refine dk_if_eq (tgt := 100) X (by decide) d_Hare_where_93 hF (fun hF => ?_) (fun hF => ?_)
            · refine dk_iconst (v := 0) X (by decide) d_Hare_where_100 ?_
              exact dk_reti hR hF d_Hare_where_101
            · refine dk_iconst (v := 1) X (by decide) d_Hare_where_96 ?_
              refine dk_goto (tgt := 101) X (by decide) d_Hare_where_97 ?_
              exact dk_reti hR hF d_Hare_where_101
          · refine dk_tsOut (tgt := 102) X d_Hare_where_37 (by have e0 := lv_neT hc0 (a := 0) (by decide); have e1 := lv_neT hc1 (a := 1) (by decide); have e2 := lv_neT hc2 (a := 2) (by decide); omega) (by decide) ?_
            refine dk_bipush (v := -7) X (by decide) d_Hare_where_102 ?_
            exact dk_reti hR hF d_Hare_where_104
    · refine dk_bipush (v := -7) X (by decide) d_Hare_where_25 ?_
      exact dk_reti hR hF d_Hare_where_27
  · refine dk_bipush (v := -5) X (by decide) d_Hare_where_11 ?_
    exact dk_reti hR hF d_Hare_where_13
def F_Hare_where (n T : Nat) (x1 : Int32) (x2 : Int32) (x3 : Int32) (S : dk_S) : Option (Int32 × dk_S) := B_Hare_where_0 n T x1 x2 x3 S
theorem c_Hare_where (l : Launch) (g : dk_G) (ad : Nat → Nat) (T n : Nat) (x1 : Int32) (x2 : Int32) (x3 : Int32)  (S : dk_S) : dk_Mi l g y_Hare_where b_Hare_where 4 rm_Hare_where (some .int) [.ref (ad 0), .int x1, .int x2, .int x3] (wC g ad T) S (F_Hare_where n T x1 x2 x3 S) := dk_enteri (by decide) (Nat.le_of_ble_eq_true rfl) (fun p e s m args below meth c A Q res hF X hR => (kb_Hare_where_0 (n := n) X hR  hF))
abbrev b_Hare_nobody : ByteArray := prog_1_method_18_code
def y_Hare_nobody : MethodName := ⟨R_Hare, "nobody", "(I)I"⟩
theorem d_Hare_nobody_0 : decode b_Hare_nobody 0 = .ok (.aload_n 0, 1) := by decide +kernel
theorem d_Hare_nobody_1 : decode b_Hare_nobody 1 = .ok (.getfield 10, 3) := by decide +kernel
theorem d_Hare_nobody_4 : decode b_Hare_nobody 4 = .ok (.iload_n 1, 1) := by decide +kernel
theorem d_Hare_nobody_5 : decode b_Hare_nobody 5 = .ok (.invokevirtual 97, 3) := by decide +kernel
theorem d_Hare_nobody_8 : decode b_Hare_nobody 8 = .ok (.ifCond .ne 6, 3) := by decide +kernel
theorem d_Hare_nobody_11 : decode b_Hare_nobody 11 = .ok (.bipush (-5), 2) := by decide +kernel
theorem d_Hare_nobody_13 : decode b_Hare_nobody 13 = .ok (.ireturn, 1) := by decide +kernel
theorem d_Hare_nobody_14 : decode b_Hare_nobody 14 = .ok (.aload_n 0, 1) := by decide +kernel
theorem d_Hare_nobody_15 : decode b_Hare_nobody 15 = .ok (.getfield 49, 3) := by decide +kernel
theorem d_Hare_nobody_18 : decode b_Hare_nobody 18 = .ok (.iload_n 1, 1) := by decide +kernel
theorem d_Hare_nobody_19 : decode b_Hare_nobody 19 = .ok (.invokevirtual 212, 3) := by decide +kernel
theorem d_Hare_nobody_22 : decode b_Hare_nobody 22 = .ok (.aload_n 0, 1) := by decide +kernel
theorem d_Hare_nobody_23 : decode b_Hare_nobody 23 = .ok (.getfield 49, 3) := by decide +kernel
theorem d_Hare_nobody_26 : decode b_Hare_nobody 26 = .ok (.getfield 215, 3) := by decide +kernel
theorem d_Hare_nobody_29 : decode b_Hare_nobody 29 = .ok (.ireturn, 1) := by decide +kernel
theorem v_Hare_nobody : dk_Yv y_Hare_nobody b_Hare_nobody 2 (some .int) 1 := ⟨dk_in (List.mem_of_getElem? (i := 801) (by decide +kernel)) rfl, dk_in (List.mem_of_getElem? (i := 802) (by decide +kernel)) rfl, dk_in (List.mem_of_getElem? (i := 66) (by decide +kernel)) rfl, dk_in (List.mem_of_getElem? (i := 803) (by decide +kernel)) rfl, by decide +kernel, by decide +kernel, by decide +kernel⟩
abbrev rm_Hare_nobody : Room := { frames := 6, cells := 0, slots := 0, locals := 138 }
theorem f_Hare_215 : Cond.fieldLink R_Hare 215 (T_Scene 19).1 (T_Scene 19).2.1 (T_Scene 19).2.2.1 ∈ dk_tb := dk_in (List.mem_of_getElem? (i := 280) (by decide +kernel)) rfl
theorem m_Hare_212 : Cond.methodLink R_Hare 212 y_Scene_tally ∈ dk_tb := dk_in (List.mem_of_getElem? (i := 804) (by decide +kernel)) rfl
def B_Hare_nobody_0 (n T : Nat)  (x1 : Int32) (S : dk_S) : Option (Int32 × dk_S) :=
  dk_c (F_Land_hasBeast n T x1 S) fun r2 S1 => if ¬ r2 = 0 then (dk_cv (F_Scene_tally n T x1 S1) fun S3 => some ((S3 120 0), S3)) else (some ((-5 : Int32), S1))
set_option maxRecDepth 20000 in
theorem kb_Hare_nobody_0 {p : Program} {l : Launch} {e : Env} {s : State} {m : MethodId} {args : Array Value} {below : List Frame} {meth : Method} {c : Code} {g : dk_G} {A : Nat → Prop} {Q : State → Prop} {ad : Nat → Nat} {T : Nat} {n : Nat} {res : (Int32 × dk_S)} (X : dk_X p s m args meth c b_Hare_nobody 2 R_Hare (some .int) g A) (hR : dk_Ri p l e rm_Hare_nobody s m args below meth c g A Q 2 b_Hare_nobody (some .int) (wC g ad T) res)  {x1 : Int32} {S : dk_S}  (hF : B_Hare_nobody_0 n T  x1 S = some res) : dk_J p l e rm_Hare_nobody s m args below meth c g A Q 2 0 0 0 [(0, .ref (ad 0)), (1, .int x1)] [] (wC g ad T S) := by
  unfold B_Hare_nobody_0 at hF
  refine dk_aload_n (k := 0) (i := 0) X 0 rfl rfl d_Hare_nobody_0 ?_
  refine dk_get X q_Hare 0 0 (by decide) (oC_Hare g ad T S) rfl f_Hare_10 d_Hare_nobody_1 ?_
  refine dk_iload_n (k := 1) (i := 1) X 1 rfl rfl d_Hare_nobody_4 ?_
  refine dk_callVi X v_Land_hasBeast [.int x1] (c_Land_hasBeast l g ad T n x1 S) 1 (oC_Land g ad T S) rfl rfl m_Hare_97 rfl rfl ⟨rfl, rfl, Nat.le_of_ble_eq_true rfl, Nat.le_of_ble_eq_true rfl, Nat.le_refl _, Nat.le_refl _⟩ (Nat.le_of_ble_eq_true rfl) d_Hare_nobody_5 hF (fun r2 S1 hF => ?_)
  refine dk_if_ne (tgt := 14) X (by decide) d_Hare_nobody_8 hF (fun hF => ?_) (fun hF => ?_)
  · refine dk_aload_n (k := 0) (i := 0) X 0 rfl rfl d_Hare_nobody_14 ?_
    refine dk_get X q_Hare 0 4 (by decide) (oC_Hare g ad T S1) rfl f_Hare_49 d_Hare_nobody_15 ?_
    refine dk_iload_n (k := 1) (i := 1) X 1 rfl rfl d_Hare_nobody_18 ?_
    refine dk_callVv X v_Scene_tally [.int x1] (c_Scene_tally l g ad T n x1 S1) 18 (oC_Scene g ad T S1) rfl rfl m_Hare_212 rfl rfl ⟨rfl, rfl, Nat.le_of_ble_eq_true rfl, Nat.le_of_ble_eq_true rfl, Nat.le_refl _, Nat.le_refl _⟩ (Nat.le_of_ble_eq_true rfl) d_Hare_nobody_19 hF (fun S3 hF => ?_)
    refine dk_aload_n (k := 0) (i := 0) X 0 rfl rfl d_Hare_nobody_22 ?_
    refine dk_get X q_Hare 0 4 (by decide) (oC_Hare g ad T S3) rfl f_Hare_49 d_Hare_nobody_23 ?_
    refine dk_get X q_Scene 18 19 (by decide) (oC_Scene g ad T S3) rfl f_Hare_215 d_Hare_nobody_26 ?_
    exact dk_reti hR hF d_Hare_nobody_29
  · refine dk_bipush (v := -5) X (by decide) d_Hare_nobody_11 ?_
    exact dk_reti hR hF d_Hare_nobody_13
def F_Hare_nobody (n T : Nat) (x1 : Int32) (S : dk_S) : Option (Int32 × dk_S) := B_Hare_nobody_0 n T x1 S
theorem c_Hare_nobody (l : Launch) (g : dk_G) (ad : Nat → Nat) (T n : Nat) (x1 : Int32)  (S : dk_S) : dk_Mi l g y_Hare_nobody b_Hare_nobody 2 rm_Hare_nobody (some .int) [.ref (ad 0), .int x1] (wC g ad T) S (F_Hare_nobody n T x1 S) := dk_enteri (by decide) (Nat.le_of_ble_eq_true rfl) (fun p e s m args below meth c A Q res hF X hR => (kb_Hare_nobody_0 (n := n) X hR  hF))
abbrev b_Hare_isSheet : ByteArray := prog_1_method_39_code
def y_Hare_isSheet : MethodName := ⟨R_Hare, "isSheet", "(I)Z"⟩
theorem d_Hare_isSheet_0 : decode b_Hare_isSheet 0 = .ok (.iload_n 0, 1) := by decide +kernel
theorem d_Hare_isSheet_1 : decode b_Hare_isSheet 1 = .ok (.ifCond .lt 12, 3) := by decide +kernel
theorem d_Hare_isSheet_4 : decode b_Hare_isSheet 4 = .ok (.iload_n 0, 1) := by decide +kernel
theorem d_Hare_isSheet_5 : decode b_Hare_isSheet 5 = .ok (.iconst 4, 1) := by decide +kernel
theorem d_Hare_isSheet_6 : decode b_Hare_isSheet 6 = .ok (.if_icmp .ge 7, 3) := by decide +kernel
theorem d_Hare_isSheet_9 : decode b_Hare_isSheet 9 = .ok (.iconst 1, 1) := by decide +kernel
theorem d_Hare_isSheet_10 : decode b_Hare_isSheet 10 = .ok (.goto 4, 3) := by decide +kernel
theorem d_Hare_isSheet_13 : decode b_Hare_isSheet 13 = .ok (.iconst 0, 1) := by decide +kernel
theorem d_Hare_isSheet_14 : decode b_Hare_isSheet 14 = .ok (.ireturn, 1) := by decide +kernel
theorem v_Hare_isSheet : dk_Ys y_Hare_isSheet b_Hare_isSheet 1 (some .boolean) 1 := ⟨dk_in (List.mem_of_getElem? (i := 813) (by decide +kernel)) rfl, dk_in (List.mem_of_getElem? (i := 66) (by decide +kernel)) rfl, dk_in (List.mem_of_getElem? (i := 814) (by decide +kernel)) rfl, by decide +kernel, by decide +kernel, by decide +kernel⟩
abbrev rm_Hare_isSheet : Room := { frames := 0, cells := 0, slots := 0, locals := 0 }
def B_Hare_isSheet_0 (n T : Nat)  (x0 : Int32) (S : dk_S) : Option (Int32 × dk_S) :=
  if x0 < 0 then (dk_b (0 : Int32) (some ((0 : Int32), S))) else (if (4 : Int32) ≤ x0 then (dk_b (0 : Int32) (some ((0 : Int32), S))) else (dk_b (1 : Int32) (some ((1 : Int32), S))))
set_option maxRecDepth 20000 in
theorem kb_Hare_isSheet_0 {p : Program} {l : Launch} {e : Env} {s : State} {m : MethodId} {args : Array Value} {below : List Frame} {meth : Method} {c : Code} {g : dk_G} {A : Nat → Prop} {Q : State → Prop} {ad : Nat → Nat} {T : Nat} {n : Nat} {res : (Int32 × dk_S)} (X : dk_X p s m args meth c b_Hare_isSheet 1 R_Hare (some .boolean) g A) (hR : dk_Ri p l e rm_Hare_isSheet s m args below meth c g A Q 1 b_Hare_isSheet (some .boolean) (wC g ad T) res)  {x0 : Int32} {S : dk_S}  (hF : B_Hare_isSheet_0 n T  x0 S = some res) : dk_J p l e rm_Hare_isSheet s m args below meth c g A Q 1 0 0 0 [(0, .int x0)] [] (wC g ad T S) := by
  unfold B_Hare_isSheet_0 at hF
  refine dk_iload_n (k := 0) (i := 0) X 0 rfl rfl d_Hare_isSheet_0 ?_
  refine dk_if_lt (tgt := 13) X (by decide) d_Hare_isSheet_1 hF (fun hF => ?_) (fun hF => ?_)
  · refine dk_iconst (v := 0) X (by decide) d_Hare_isSheet_13 ?_
    exact dk_retz hR hF d_Hare_isSheet_14
  · refine dk_iload_n (k := 0) (i := 0) X 0 rfl rfl d_Hare_isSheet_4 ?_
    refine dk_iconst (v := 4) X (by decide) d_Hare_isSheet_5 ?_
    refine dk_icmp_ge (tgt := 13) X (by decide) d_Hare_isSheet_6 hF (fun hF => ?_) (fun hF => ?_)
    · refine dk_iconst (v := 0) X (by decide) d_Hare_isSheet_13 ?_
      exact dk_retz hR hF d_Hare_isSheet_14
    · refine dk_iconst (v := 1) X (by decide) d_Hare_isSheet_9 ?_
      refine dk_goto (tgt := 14) X (by decide) d_Hare_isSheet_10 ?_
      exact dk_retz hR hF d_Hare_isSheet_14
def F_Hare_isSheet (n T : Nat) (x0 : Int32) (S : dk_S) : Option (Int32 × dk_S) := B_Hare_isSheet_0 n T x0 S
theorem c_Hare_isSheet (l : Launch) (g : dk_G) (ad : Nat → Nat) (T n : Nat) (x0 : Int32)  (S : dk_S) : dk_Mi l g y_Hare_isSheet b_Hare_isSheet 1 rm_Hare_isSheet (some .boolean) [.int x0] (wC g ad T) S (F_Hare_isSheet n T x0 S) := dk_enteri (by decide) (Nat.le_of_ble_eq_true rfl) (fun p e s m args below meth c A Q res hF X hR => (kb_Hare_isSheet_0 (n := n) X hR  hF))
abbrev b_Hare_judge : ByteArray := prog_1_method_19_code
def y_Hare_judge : MethodName := ⟨R_Hare, "judge", "(II)I"⟩
theorem d_Hare_judge_0 : decode b_Hare_judge 0 = .ok (.aload_n 0, 1) := by decide +kernel
theorem d_Hare_judge_1 : decode b_Hare_judge 1 = .ok (.getfield 10, 3) := by decide +kernel
theorem d_Hare_judge_4 : decode b_Hare_judge 4 = .ok (.iload_n 1, 1) := by decide +kernel
theorem d_Hare_judge_5 : decode b_Hare_judge 5 = .ok (.invokevirtual 97, 3) := by decide +kernel
theorem d_Hare_judge_8 : decode b_Hare_judge 8 = .ok (.ifCond .ne 6, 3) := by decide +kernel
theorem d_Hare_judge_11 : decode b_Hare_judge 11 = .ok (.bipush (-5), 2) := by decide +kernel
theorem d_Hare_judge_13 : decode b_Hare_judge 13 = .ok (.ireturn, 1) := by decide +kernel
theorem d_Hare_judge_14 : decode b_Hare_judge 14 = .ok (.iload_n 2, 1) := by decide +kernel
theorem d_Hare_judge_15 : decode b_Hare_judge 15 = .ok (.invokestatic 218, 3) := by decide +kernel
theorem d_Hare_judge_18 : decode b_Hare_judge 18 = .ok (.ifCond .ne 6, 3) := by decide +kernel
theorem d_Hare_judge_21 : decode b_Hare_judge 21 = .ok (.bipush (-2), 2) := by decide +kernel
theorem d_Hare_judge_23 : decode b_Hare_judge 23 = .ok (.ireturn, 1) := by decide +kernel
theorem d_Hare_judge_24 : decode b_Hare_judge 24 = .ok (.aload_n 0, 1) := by decide +kernel
theorem d_Hare_judge_25 : decode b_Hare_judge 25 = .ok (.getfield 66, 3) := by decide +kernel
theorem d_Hare_judge_28 : decode b_Hare_judge 28 = .ok (.iload_n 2, 1) := by decide +kernel
theorem d_Hare_judge_29 : decode b_Hare_judge 29 = .ok (.aaload, 1) := by decide +kernel
theorem d_Hare_judge_30 : decode b_Hare_judge 30 = .ok (.astore_n 3, 1) := by decide +kernel
theorem d_Hare_judge_31 : decode b_Hare_judge 31 = .ok (.aload_n 3, 1) := by decide +kernel
theorem d_Hare_judge_32 : decode b_Hare_judge 32 = .ok (.invokevirtual 221, 3) := by decide +kernel
theorem d_Hare_judge_35 : decode b_Hare_judge 35 = .ok (.ifCond .eq 6, 3) := by decide +kernel
theorem d_Hare_judge_38 : decode b_Hare_judge 38 = .ok (.bipush (-11), 2) := by decide +kernel
theorem d_Hare_judge_40 : decode b_Hare_judge 40 = .ok (.ireturn, 1) := by decide +kernel
theorem d_Hare_judge_41 : decode b_Hare_judge 41 = .ok (.aload_n 3, 1) := by decide +kernel
theorem d_Hare_judge_42 : decode b_Hare_judge 42 = .ok (.getfield 225, 3) := by decide +kernel
theorem d_Hare_judge_45 : decode b_Hare_judge 45 = .ok (.aload_n 0, 1) := by decide +kernel
theorem d_Hare_judge_46 : decode b_Hare_judge 46 = .ok (.getfield 19, 3) := by decide +kernel
theorem d_Hare_judge_49 : decode b_Hare_judge 49 = .ok (.getfield 226, 3) := by decide +kernel
theorem d_Hare_judge_52 : decode b_Hare_judge 52 = .ok (.iconst 1, 1) := by decide +kernel
theorem d_Hare_judge_53 : decode b_Hare_judge 53 = .ok (.iadd, 1) := by decide +kernel
theorem d_Hare_judge_54 : decode b_Hare_judge 54 = .ok (.if_icmp .eq 6, 3) := by decide +kernel
theorem d_Hare_judge_57 : decode b_Hare_judge 57 = .ok (.bipush (-2), 2) := by decide +kernel
theorem d_Hare_judge_59 : decode b_Hare_judge 59 = .ok (.ireturn, 1) := by decide +kernel
theorem d_Hare_judge_60 : decode b_Hare_judge 60 = .ok (.aload_n 0, 1) := by decide +kernel
theorem d_Hare_judge_61 : decode b_Hare_judge 61 = .ok (.getfield 49, 3) := by decide +kernel
theorem d_Hare_judge_64 : decode b_Hare_judge 64 = .ok (.invokevirtual 227, 3) := by decide +kernel
theorem d_Hare_judge_67 : decode b_Hare_judge 67 = .ok (.iconst 0, 1) := by decide +kernel
theorem d_Hare_judge_68 : decode b_Hare_judge 68 = .ok (.istore 4, 2) := by decide +kernel
theorem d_Hare_judge_70 : decode b_Hare_judge 70 = .ok (.iload 4, 2) := by decide +kernel
theorem d_Hare_judge_72 : decode b_Hare_judge 72 = .ok (.aload_n 3, 1) := by decide +kernel
theorem d_Hare_judge_73 : decode b_Hare_judge 73 = .ok (.getfield 225, 3) := by decide +kernel
theorem d_Hare_judge_76 : decode b_Hare_judge 76 = .ok (.if_icmp .ge 46, 3) := by decide +kernel
theorem d_Hare_judge_79 : decode b_Hare_judge 79 = .ok (.iload 4, 2) := by decide +kernel
theorem d_Hare_judge_81 : decode b_Hare_judge 81 = .ok (.ifCond .le 14, 3) := by decide +kernel
theorem d_Hare_judge_84 : decode b_Hare_judge 84 = .ok (.aload_n 0, 1) := by decide +kernel
theorem d_Hare_judge_85 : decode b_Hare_judge 85 = .ok (.getfield 49, 3) := by decide +kernel
theorem d_Hare_judge_88 : decode b_Hare_judge 88 = .ok (.iload 4, 2) := by decide +kernel
theorem d_Hare_judge_90 : decode b_Hare_judge 90 = .ok (.iconst 1, 1) := by decide +kernel
theorem d_Hare_judge_91 : decode b_Hare_judge 91 = .ok (.isub, 1) := by decide +kernel
theorem d_Hare_judge_92 : decode b_Hare_judge 92 = .ok (.invokevirtual 230, 3) := by decide +kernel
theorem d_Hare_judge_95 : decode b_Hare_judge 95 = .ok (.aload_n 0, 1) := by decide +kernel
theorem d_Hare_judge_96 : decode b_Hare_judge 96 = .ok (.getfield 49, 3) := by decide +kernel
theorem d_Hare_judge_99 : decode b_Hare_judge 99 = .ok (.iload_n 1, 1) := by decide +kernel
theorem d_Hare_judge_100 : decode b_Hare_judge 100 = .ok (.invokevirtual 193, 3) := by decide +kernel
theorem d_Hare_judge_103 : decode b_Hare_judge 103 = .ok (.aload_n 3, 1) := by decide +kernel
theorem d_Hare_judge_104 : decode b_Hare_judge 104 = .ok (.getfield 233, 3) := by decide +kernel
theorem d_Hare_judge_107 : decode b_Hare_judge 107 = .ok (.iload 4, 2) := by decide +kernel
theorem d_Hare_judge_109 : decode b_Hare_judge 109 = .ok (.iaload, 1) := by decide +kernel
theorem d_Hare_judge_110 : decode b_Hare_judge 110 = .ok (.if_icmp .eq 6, 3) := by decide +kernel
theorem d_Hare_judge_113 : decode b_Hare_judge 113 = .ok (.iload 4, 2) := by decide +kernel
theorem d_Hare_judge_115 : decode b_Hare_judge 115 = .ok (.ireturn, 1) := by decide +kernel
theorem d_Hare_judge_116 : decode b_Hare_judge 116 = .ok (.iinc 4 1, 3) := by decide +kernel
theorem d_Hare_judge_119 : decode b_Hare_judge 119 = .ok (.goto (-49), 3) := by decide +kernel
theorem d_Hare_judge_122 : decode b_Hare_judge 122 = .ok (.iconst (-1), 1) := by decide +kernel
theorem d_Hare_judge_123 : decode b_Hare_judge 123 = .ok (.ireturn, 1) := by decide +kernel
theorem v_Hare_judge : dk_Yv y_Hare_judge b_Hare_judge 5 (some .int) 2 := ⟨dk_in (List.mem_of_getElem? (i := 809) (by decide +kernel)) rfl, dk_in (List.mem_of_getElem? (i := 810) (by decide +kernel)) rfl, dk_in (List.mem_of_getElem? (i := 66) (by decide +kernel)) rfl, dk_in (List.mem_of_getElem? (i := 811) (by decide +kernel)) rfl, by decide +kernel, by decide +kernel, by decide +kernel⟩
abbrev rm_Hare_judge : Room := { frames := 6, cells := 0, slots := 0, locals := 137 }
theorem f_Hare_225 : Cond.fieldLink R_Hare 225 (T_Sheet 2).1 (T_Sheet 2).2.1 (T_Sheet 2).2.2.1 ∈ dk_tb := dk_in (List.mem_of_getElem? (i := 337) (by decide +kernel)) rfl
theorem f_Hare_226 : Cond.fieldLink R_Hare 226 (T_Diary 6).1 (T_Diary 6).2.1 (T_Diary 6).2.2.1 ∈ dk_tb := dk_in (List.mem_of_getElem? (i := 152) (by decide +kernel)) rfl
theorem f_Hare_233 : Cond.fieldLink R_Hare 233 (T_Sheet 0).1 (T_Sheet 0).2.1 (T_Sheet 0).2.2.1 ∈ dk_tb := dk_in (List.mem_of_getElem? (i := 333) (by decide +kernel)) rfl
theorem f_Hare_66 : Cond.fieldLink R_Hare 66 (T_Hare 6).1 (T_Hare 6).2.1 (T_Hare 6).2.2.1 ∈ dk_tb := dk_in (List.mem_of_getElem? (i := 378) (by decide +kernel)) rfl
theorem m_Hare_218 : Cond.methodLink R_Hare 218 y_Hare_isSheet ∈ dk_tb := dk_in (List.mem_of_getElem? (i := 812) (by decide +kernel)) rfl
theorem m_Hare_221 : Cond.methodLink R_Hare 221 y_Sheet_isMissing ∈ dk_tb := dk_in (List.mem_of_getElem? (i := 815) (by decide +kernel)) rfl
theorem m_Hare_227 : Cond.methodLink R_Hare 227 y_Scene_begin ∈ dk_tb := dk_in (List.mem_of_getElem? (i := 819) (by decide +kernel)) rfl
theorem m_Hare_230 : Cond.methodLink R_Hare 230 y_Scene_live ∈ dk_tb := dk_in (List.mem_of_getElem? (i := 820) (by decide +kernel)) rfl
def B_Hare_judge_95 (n T : Nat) (k70 : Int32 → Nat → Int32 → dk_S → Option (Int32 × dk_S)) (x1 : Int32) (jx3 : Nat) (x4 : Int32) (S : dk_S) : Option (Int32 × dk_S) :=
  dk_c (F_Scene_possessor n T x1 S) fun r2 S1 => dk_r 40 (S1 (36 + 2 * jx3)) x4 fun v3 => if r2 = v3 then (k70 x1 jx3 (x4 + (1 : Int32)) S1) else (some (x4, S1))
set_option maxRecDepth 20000 in
theorem kb_Hare_judge_95 {p : Program} {l : Launch} {e : Env} {s : State} {m : MethodId} {args : Array Value} {below : List Frame} {meth : Method} {c : Code} {g : dk_G} {A : Nat → Prop} {Q : State → Prop} {ad : Nat → Nat} {T : Nat} {n : Nat} {res : (Int32 × dk_S)} (X : dk_X p s m args meth c b_Hare_judge 5 R_Hare (some .int) g A) (hR : dk_Ri p l e rm_Hare_judge s m args below meth c g A Q 5 b_Hare_judge (some .int) (wC g ad T) res) {k70 : Int32 → Nat → Int32 → dk_S → Option (Int32 × dk_S)} (hk70 : ∀ (x1 : Int32) (jx3 : Nat) (x4 : Int32) (hx3 : jx3 < 4) (S : dk_S), k70 x1 jx3 x4 S = some res → dk_J p l e rm_Hare_judge s m args below meth c g A Q 5 0 0 70 [(0, .ref (ad 0)), (1, .int x1), (3, .ref (ad (35 + 2 * jx3))), (4, .int x4)] [] (wC g ad T S)) {x1 : Int32} {jx3 : Nat} {x4 : Int32} {S : dk_S} (hx3 : jx3 < 4) (hF : B_Hare_judge_95 n T k70 x1 jx3 x4 S = some res) : dk_J p l e rm_Hare_judge s m args below meth c g A Q 5 0 0 95 [(0, .ref (ad 0)), (1, .int x1), (3, .ref (ad (35 + 2 * jx3))), (4, .int x4)] [] (wC g ad T S) := by
  unfold B_Hare_judge_95 at hF
  refine dk_aload_n (k := 0) (i := 0) X 0 rfl rfl d_Hare_judge_95 ?_
  refine dk_get X q_Hare 0 4 (by decide) (oC_Hare g ad T S) rfl f_Hare_49 d_Hare_judge_96 ?_
  refine dk_iload_n (k := 1) (i := 1) X 1 rfl rfl d_Hare_judge_99 ?_
  refine dk_callVi X v_Scene_possessor [.int x1] (c_Scene_possessor l g ad T n x1 S) 18 (oC_Scene g ad T S) rfl rfl m_Hare_193 rfl rfl ⟨rfl, rfl, Nat.le_of_ble_eq_true rfl, Nat.le_of_ble_eq_true rfl, Nat.le_refl _, Nat.le_refl _⟩ (Nat.le_of_ble_eq_true rfl) d_Hare_judge_100 hF (fun r2 S1 hF => ?_)
  refine dk_aload_n (k := 3) (i := 3) X 2 rfl rfl d_Hare_judge_103 ?_
  refine dk_get X q_Sheet (35 + 2 * jx3) 0 (by decide) (oC_Sheet g ad T S1 jx3 hx3) rfl f_Hare_233 d_Hare_judge_104 ?_
  refine dk_iload (i := 4) X 3 rfl d_Hare_judge_107 ?_
  refine dk_iald X (36 + 2 * jx3) (aC_row g ad T S1 jx3 hx3) d_Hare_judge_109 hF (fun v3 hF => ?_)
  refine dk_icmp_eq (tgt := 116) X (by decide) d_Hare_judge_110 hF (fun hF => ?_) (fun hF => ?_)
  · refine dk_iinc (i := 4) (v := (x4 + (1 : Int32))) (lv' := [(4, .int (x4 + (1 : Int32))), (0, .ref (ad 0)), (1, .int x1), (3, .ref (ad (35 + 2 * jx3)))]) X 3 rfl (dk_ii _ (by decide)) (by decide) rfl d_Hare_judge_116 ?_
    refine dk_goto (tgt := 70) X (by decide) d_Hare_judge_119 ?_
    exact dk_sub [1, 2, 3, 0] rfl (hk70 x1 jx3 (x4 + (1 : Int32)) hx3 S1 hF)
  · refine dk_iload (i := 4) X 3 rfl d_Hare_judge_113 ?_
    exact dk_reti hR hF d_Hare_judge_115
def B_Hare_judge_70b (n T : Nat) (k70 : Int32 → Nat → Int32 → dk_S → Option (Int32 × dk_S)) (x1 : Int32) (jx3 : Nat) (x4 : Int32) (S : dk_S) : Option (Int32 × dk_S) :=
  if (S (170 + jx3) 0) ≤ x4 then (some ((-1 : Int32), S)) else (if x4 ≤ 0 then (B_Hare_judge_95 n T k70 x1 jx3 x4 S) else (dk_cv (F_Scene_live n T (x4 - (1 : Int32)) S) fun S4 => B_Hare_judge_95 n T k70 x1 jx3 x4 S4))
set_option maxRecDepth 20000 in
theorem kb_Hare_judge_70b {p : Program} {l : Launch} {e : Env} {s : State} {m : MethodId} {args : Array Value} {below : List Frame} {meth : Method} {c : Code} {g : dk_G} {A : Nat → Prop} {Q : State → Prop} {ad : Nat → Nat} {T : Nat} {n : Nat} {res : (Int32 × dk_S)} (X : dk_X p s m args meth c b_Hare_judge 5 R_Hare (some .int) g A) (hR : dk_Ri p l e rm_Hare_judge s m args below meth c g A Q 5 b_Hare_judge (some .int) (wC g ad T) res) {k70 : Int32 → Nat → Int32 → dk_S → Option (Int32 × dk_S)} (hk70 : ∀ (x1 : Int32) (jx3 : Nat) (x4 : Int32) (hx3 : jx3 < 4) (S : dk_S), k70 x1 jx3 x4 S = some res → dk_J p l e rm_Hare_judge s m args below meth c g A Q 5 0 0 70 [(0, .ref (ad 0)), (1, .int x1), (3, .ref (ad (35 + 2 * jx3))), (4, .int x4)] [] (wC g ad T S)) {x1 : Int32} {jx3 : Nat} {x4 : Int32} {S : dk_S} (hx3 : jx3 < 4) (hF : B_Hare_judge_70b n T k70 x1 jx3 x4 S = some res) : dk_J p l e rm_Hare_judge s m args below meth c g A Q 5 0 0 70 [(0, .ref (ad 0)), (1, .int x1), (3, .ref (ad (35 + 2 * jx3))), (4, .int x4)] [] (wC g ad T S) := by
  unfold B_Hare_judge_70b at hF
  refine dk_iload (i := 4) X 3 rfl d_Hare_judge_70 ?_
  refine dk_aload_n (k := 3) (i := 3) X 2 rfl rfl d_Hare_judge_72 ?_
  refine dk_get X q_Sheet (35 + 2 * jx3) 2 (by decide) (oC_Sheet g ad T S jx3 hx3) rfl f_Hare_225 d_Hare_judge_73 ?_
  refine dk_icmp_ge (tgt := 122) X (by decide) d_Hare_judge_76 hF (fun hF => ?_) (fun hF => ?_)
  · refine dk_iconst (v := -1) X (by decide) d_Hare_judge_122 ?_
    exact dk_reti hR hF d_Hare_judge_123
  · refine dk_iload (i := 4) X 3 rfl d_Hare_judge_79 ?_
    refine dk_if_le (tgt := 95) X (by decide) d_Hare_judge_81 hF (fun hF => ?_) (fun hF => ?_)
    · exact (kb_Hare_judge_95 (n := n) X hR hk70 hx3 hF)
    · refine dk_aload_n (k := 0) (i := 0) X 0 rfl rfl d_Hare_judge_84 ?_
      refine dk_get X q_Hare 0 4 (by decide) (oC_Hare g ad T S) rfl f_Hare_49 d_Hare_judge_85 ?_
      refine dk_iload (i := 4) X 3 rfl d_Hare_judge_88 ?_
      refine dk_iconst (v := 1) X (by decide) d_Hare_judge_90 ?_
      refine dk_isub X d_Hare_judge_91 ?_
      refine dk_callVv X v_Scene_live [.int (x4 - (1 : Int32))] (c_Scene_live l g ad T n (x4 - (1 : Int32)) S) 18 (oC_Scene g ad T S) rfl rfl m_Hare_230 rfl rfl ⟨rfl, rfl, Nat.le_of_ble_eq_true rfl, Nat.le_of_ble_eq_true rfl, Nat.le_refl _, Nat.le_refl _⟩ (Nat.le_of_ble_eq_true rfl) d_Hare_judge_92 hF (fun S4 hF => ?_)
      exact (kb_Hare_judge_95 (n := n) X hR hk70 hx3 hF)
def B_Hare_judge_70 (n T : Nat)  : Nat → Int32 → Nat → Int32 → dk_S → Option (Int32 × dk_S)
  | 0 => fun _ _ _ _ => none
  | q + 1 => fun x1 jx3 x4 S => B_Hare_judge_70b n T (fun x1 jx3 x4 S => B_Hare_judge_70 n T  q x1 jx3 x4 S) x1 jx3 x4 S
theorem kb_Hare_judge_70 {p : Program} {l : Launch} {e : Env} {s : State} {m : MethodId} {args : Array Value} {below : List Frame} {meth : Method} {c : Code} {g : dk_G} {A : Nat → Prop} {Q : State → Prop} {ad : Nat → Nat} {T : Nat} {n : Nat} {res : (Int32 × dk_S)} (X : dk_X p s m args meth c b_Hare_judge 5 R_Hare (some .int) g A) (hR : dk_Ri p l e rm_Hare_judge s m args below meth c g A Q 5 b_Hare_judge (some .int) (wC g ad T) res)  : ∀ (q : Nat) (x1 : Int32) (jx3 : Nat) (x4 : Int32) (hx3 : jx3 < 4) (S : dk_S), B_Hare_judge_70 n T  q x1 jx3 x4 S = some res → dk_J p l e rm_Hare_judge s m args below meth c g A Q 5 0 0 70 [(0, .ref (ad 0)), (1, .int x1), (3, .ref (ad (35 + 2 * jx3))), (4, .int x4)] [] (wC g ad T S) := by
  intro q
  induction q with
  | zero => intro x1 jx3 x4 hx3 S hF; cases hF
  | succ q ih => intro x1 jx3 x4 hx3 S hF; exact kb_Hare_judge_70b (n := n) X hR ih hx3 hF
def B_Hare_judge_0 (n T : Nat)  (x1 : Int32) (x2 : Int32) (S : dk_S) : Option (Int32 × dk_S) :=
  dk_c (F_Land_hasBeast n T x1 S) fun r7 S6 => if ¬ r7 = 0 then (dk_c (F_Hare_isSheet n T x2 S6) fun r9 S8 => if ¬ r9 = 0 then (dk_sh x2 fun j10 => dk_c (F_Sheet_isMissing n T j10 S8) fun r12 S11 => if r12 = 0 then (if (S11 (170 + j10) 0) = ((S11 104 0) + (1 : Int32)) then (dk_cv (F_Scene_begin n T S11) fun S13 => B_Hare_judge_70 n T  n x1 j10 (0 : Int32) S13) else (some ((-2 : Int32), S11))) else (some ((-11 : Int32), S11))) else (some ((-2 : Int32), S8))) else (some ((-5 : Int32), S6))
set_option maxRecDepth 20000 in
theorem kb_Hare_judge_0 {p : Program} {l : Launch} {e : Env} {s : State} {m : MethodId} {args : Array Value} {below : List Frame} {meth : Method} {c : Code} {g : dk_G} {A : Nat → Prop} {Q : State → Prop} {ad : Nat → Nat} {T : Nat} {n : Nat} {res : (Int32 × dk_S)} (X : dk_X p s m args meth c b_Hare_judge 5 R_Hare (some .int) g A) (hR : dk_Ri p l e rm_Hare_judge s m args below meth c g A Q 5 b_Hare_judge (some .int) (wC g ad T) res)  {x1 : Int32} {x2 : Int32} {S : dk_S}  (hF : B_Hare_judge_0 n T  x1 x2 S = some res) : dk_J p l e rm_Hare_judge s m args below meth c g A Q 5 0 0 0 [(0, .ref (ad 0)), (1, .int x1), (2, .int x2)] [] (wC g ad T S) := by
  unfold B_Hare_judge_0 at hF
  refine dk_aload_n (k := 0) (i := 0) X 0 rfl rfl d_Hare_judge_0 ?_
  refine dk_get X q_Hare 0 0 (by decide) (oC_Hare g ad T S) rfl f_Hare_10 d_Hare_judge_1 ?_
  refine dk_iload_n (k := 1) (i := 1) X 1 rfl rfl d_Hare_judge_4 ?_
  refine dk_callVi X v_Land_hasBeast [.int x1] (c_Land_hasBeast l g ad T n x1 S) 1 (oC_Land g ad T S) rfl rfl m_Hare_97 rfl rfl ⟨rfl, rfl, Nat.le_of_ble_eq_true rfl, Nat.le_of_ble_eq_true rfl, Nat.le_refl _, Nat.le_refl _⟩ (Nat.le_of_ble_eq_true rfl) d_Hare_judge_5 hF (fun r7 S6 hF => ?_)
  refine dk_if_ne (tgt := 14) X (by decide) d_Hare_judge_8 hF (fun hF => ?_) (fun hF => ?_)
  · refine dk_iload_n (k := 2) (i := 2) X 2 rfl rfl d_Hare_judge_14 ?_
    refine dk_callSi X v_Hare_isSheet [.int x2] (c_Hare_isSheet l g ad T n x2 S6) m_Hare_218 rfl rfl ⟨rfl, rfl, Nat.le_of_ble_eq_true rfl, Nat.le_of_ble_eq_true rfl, Nat.le_refl _, Nat.le_refl _⟩ (Nat.le_of_ble_eq_true rfl) d_Hare_judge_15 hF (fun r9 S8 hF => ?_)
    refine dk_if_ne (tgt := 24) X (by decide) d_Hare_judge_18 hF (fun hF => ?_) (fun hF => ?_)
    · refine dk_aload_n (k := 0) (i := 0) X 0 rfl rfl d_Hare_judge_24 ?_
      refine dk_get X q_Hare 0 6 (by decide) (oC_Hare g ad T S8) rfl f_Hare_66 d_Hare_judge_25 ?_
      refine dk_iload_n (k := 2) (i := 2) X 2 rfl rfl d_Hare_judge_28 ?_
      refine dk_shld X d_Hare_judge_29 hF (fun j10 hj10 hF => ?_)
      refine dk_astore_n (k := 3) (i := 3) (lv' := [(3, .ref (ad (35 + 2 * j10))), (0, .ref (ad 0)), (1, .int x1), (2, .int x2)]) X rfl (by decide) rfl d_Hare_judge_30 ?_
      refine dk_aload_n (k := 3) (i := 3) X 0 rfl rfl d_Hare_judge_31 ?_
      refine dk_callVi X v_Sheet_isMissing [] (c_Sheet_isMissing l g ad T n j10 hj10 S8) (35 + 2 * j10) (oC_Sheet g ad T S8 j10 hj10) rfl rfl m_Hare_221 rfl rfl ⟨rfl, rfl, Nat.le_of_ble_eq_true rfl, Nat.le_of_ble_eq_true rfl, Nat.le_refl _, Nat.le_refl _⟩ (Nat.le_of_ble_eq_true rfl) d_Hare_judge_32 hF (fun r12 S11 hF => ?_)
      refine dk_if_eq (tgt := 41) X (by decide) d_Hare_judge_35 hF (fun hF => ?_) (fun hF => ?_)
      · refine dk_aload_n (k := 3) (i := 3) X 0 rfl rfl d_Hare_judge_41 ?_
        refine dk_get X q_Sheet (35 + 2 * j10) 2 (by decide) (oC_Sheet g ad T S11 j10 hj10) rfl f_Hare_225 d_Hare_judge_42 ?_
        refine dk_aload_n (k := 0) (i := 0) X 1 rfl rfl d_Hare_judge_45 ?_
        refine dk_get X q_Hare 0 1 (by decide) (oC_Hare g ad T S11) rfl f_Hare_19 d_Hare_judge_46 ?_
        refine dk_get X q_Diary 5 6 (by decide) (oC_Diary g ad T S11) rfl f_Hare_226 d_Hare_judge_49 ?_
        refine dk_iconst (v := 1) X (by decide) d_Hare_judge_52 ?_
        refine dk_iadd X d_Hare_judge_53 ?_
        refine dk_icmp_eq (tgt := 60) X (by decide) d_Hare_judge_54 hF (fun hF => ?_) (fun hF => ?_)
        · refine dk_aload_n (k := 0) (i := 0) X 1 rfl rfl d_Hare_judge_60 ?_
          refine dk_get X q_Hare 0 4 (by decide) (oC_Hare g ad T S11) rfl f_Hare_49 d_Hare_judge_61 ?_
          refine dk_callVv X v_Scene_begin [] (c_Scene_begin l g ad T n S11) 18 (oC_Scene g ad T S11) rfl rfl m_Hare_227 rfl rfl ⟨rfl, rfl, Nat.le_of_ble_eq_true rfl, Nat.le_of_ble_eq_true rfl, Nat.le_refl _, Nat.le_refl _⟩ (Nat.le_of_ble_eq_true rfl) d_Hare_judge_64 hF (fun S13 hF => ?_)
          refine dk_iconst (v := 0) X (by decide) d_Hare_judge_67 ?_
          refine dk_istore (i := 4) (lv' := [(4, .int (0 : Int32)), (3, .ref (ad (35 + 2 * j10))), (0, .ref (ad 0)), (1, .int x1), (2, .int x2)]) X (by decide) rfl d_Hare_judge_68 ?_
          exact dk_sub [2, 3, 1, 0] rfl (kb_Hare_judge_70 (n := n) X hR  n x1 j10 (0 : Int32) hj10 S13 hF)
        · refine dk_bipush (v := -2) X (by decide) d_Hare_judge_57 ?_
          exact dk_reti hR hF d_Hare_judge_59
      · refine dk_bipush (v := -11) X (by decide) d_Hare_judge_38 ?_
        exact dk_reti hR hF d_Hare_judge_40
    · refine dk_bipush (v := -2) X (by decide) d_Hare_judge_21 ?_
      exact dk_reti hR hF d_Hare_judge_23
  · refine dk_bipush (v := -5) X (by decide) d_Hare_judge_11 ?_
    exact dk_reti hR hF d_Hare_judge_13
def F_Hare_judge (n T : Nat) (x1 : Int32) (x2 : Int32) (S : dk_S) : Option (Int32 × dk_S) := B_Hare_judge_0 n T x1 x2 S
theorem c_Hare_judge (l : Launch) (g : dk_G) (ad : Nat → Nat) (T n : Nat) (x1 : Int32) (x2 : Int32)  (S : dk_S) : dk_Mi l g y_Hare_judge b_Hare_judge 5 rm_Hare_judge (some .int) [.ref (ad 0), .int x1, .int x2] (wC g ad T) S (F_Hare_judge n T x1 x2 S) := dk_enteri (by decide) (Nat.le_of_ble_eq_true rfl) (fun p e s m args below meth c A Q res hF X hR => (kb_Hare_judge_0 (n := n) X hR  hF))
abbrev b_Hare_may : ByteArray := prog_1_method_20_code
def y_Hare_may : MethodName := ⟨R_Hare, "may", "(I)I"⟩
theorem d_Hare_may_0 : decode b_Hare_may 0 = .ok (.aload_n 0, 1) := by decide +kernel
theorem d_Hare_may_1 : decode b_Hare_may 1 = .ok (.getfield 10, 3) := by decide +kernel
theorem d_Hare_may_4 : decode b_Hare_may 4 = .ok (.iload_n 1, 1) := by decide +kernel
theorem d_Hare_may_5 : decode b_Hare_may 5 = .ok (.invokevirtual 97, 3) := by decide +kernel
theorem d_Hare_may_8 : decode b_Hare_may 8 = .ok (.ifCond .ne 6, 3) := by decide +kernel
theorem d_Hare_may_11 : decode b_Hare_may 11 = .ok (.bipush (-5), 2) := by decide +kernel
theorem d_Hare_may_13 : decode b_Hare_may 13 = .ok (.ireturn, 1) := by decide +kernel
theorem d_Hare_may_14 : decode b_Hare_may 14 = .ok (.iconst 1, 1) := by decide +kernel
theorem d_Hare_may_15 : decode b_Hare_may 15 = .ok (.aload_n 0, 1) := by decide +kernel
theorem d_Hare_may_16 : decode b_Hare_may 16 = .ok (.getfield 19, 3) := by decide +kernel
theorem d_Hare_may_19 : decode b_Hare_may 19 = .ok (.invokevirtual 120, 3) := by decide +kernel
theorem d_Hare_may_22 : decode b_Hare_may 22 = .ok (.ishl, 1) := by decide +kernel
theorem d_Hare_may_23 : decode b_Hare_may 23 = .ok (.istore_n 2, 1) := by decide +kernel
theorem d_Hare_may_24 : decode b_Hare_may 24 = .ok (.iconst 0, 1) := by decide +kernel
theorem d_Hare_may_25 : decode b_Hare_may 25 = .ok (.istore_n 3, 1) := by decide +kernel
theorem d_Hare_may_26 : decode b_Hare_may 26 = .ok (.iconst 0, 1) := by decide +kernel
theorem d_Hare_may_27 : decode b_Hare_may 27 = .ok (.istore 4, 2) := by decide +kernel
theorem d_Hare_may_29 : decode b_Hare_may 29 = .ok (.iload 4, 2) := by decide +kernel
theorem d_Hare_may_31 : decode b_Hare_may 31 = .ok (.iload_n 2, 1) := by decide +kernel
theorem d_Hare_may_32 : decode b_Hare_may 32 = .ok (.if_icmp .ge 39, 3) := by decide +kernel
theorem d_Hare_may_35 : decode b_Hare_may 35 = .ok (.aload_n 0, 1) := by decide +kernel
theorem d_Hare_may_36 : decode b_Hare_may 36 = .ok (.getfield 49, 3) := by decide +kernel
theorem d_Hare_may_39 : decode b_Hare_may 39 = .ok (.iload_n 1, 1) := by decide +kernel
theorem d_Hare_may_40 : decode b_Hare_may 40 = .ok (.iload 4, 2) := by decide +kernel
theorem d_Hare_may_42 : decode b_Hare_may 42 = .ok (.invokevirtual 236, 3) := by decide +kernel
theorem d_Hare_may_45 : decode b_Hare_may 45 = .ok (.istore 5, 2) := by decide +kernel
theorem d_Hare_may_47 : decode b_Hare_may 47 = .ok (.iload_n 3, 1) := by decide +kernel
theorem d_Hare_may_48 : decode b_Hare_may 48 = .ok (.iconst 1, 1) := by decide +kernel
theorem d_Hare_may_49 : decode b_Hare_may 49 = .ok (.iload 5, 2) := by decide +kernel
theorem d_Hare_may_51 : decode b_Hare_may 51 = .ok (.iconst (-1), 1) := by decide +kernel
theorem d_Hare_may_52 : decode b_Hare_may 52 = .ok (.if_icmp .ne 8, 3) := by decide +kernel
theorem d_Hare_may_55 : decode b_Hare_may 55 = .ok (.bipush 10, 2) := by decide +kernel
theorem d_Hare_may_57 : decode b_Hare_may 57 = .ok (.goto 5, 3) := by decide +kernel
theorem d_Hare_may_60 : decode b_Hare_may 60 = .ok (.iload 5, 2) := by decide +kernel
theorem d_Hare_may_62 : decode b_Hare_may 62 = .ok (.ishl, 1) := by decide +kernel
theorem d_Hare_may_63 : decode b_Hare_may 63 = .ok (.ior, 1) := by decide +kernel
theorem d_Hare_may_64 : decode b_Hare_may 64 = .ok (.istore_n 3, 1) := by decide +kernel
theorem d_Hare_may_65 : decode b_Hare_may 65 = .ok (.iinc 4 1, 3) := by decide +kernel
theorem d_Hare_may_68 : decode b_Hare_may 68 = .ok (.goto (-39), 3) := by decide +kernel
theorem d_Hare_may_71 : decode b_Hare_may 71 = .ok (.iload_n 3, 1) := by decide +kernel
theorem d_Hare_may_72 : decode b_Hare_may 72 = .ok (.ireturn, 1) := by decide +kernel
theorem v_Hare_may : dk_Yv y_Hare_may b_Hare_may 6 (some .int) 1 := ⟨dk_in (List.mem_of_getElem? (i := 822) (by decide +kernel)) rfl, dk_in (List.mem_of_getElem? (i := 823) (by decide +kernel)) rfl, dk_in (List.mem_of_getElem? (i := 66) (by decide +kernel)) rfl, dk_in (List.mem_of_getElem? (i := 824) (by decide +kernel)) rfl, by decide +kernel, by decide +kernel, by decide +kernel⟩
abbrev rm_Hare_may : Room := { frames := 6, cells := 0, slots := 0, locals := 142 }
theorem m_Hare_236 : Cond.methodLink R_Hare 236 y_Scene_possessorWithout ∈ dk_tb := dk_in (List.mem_of_getElem? (i := 825) (by decide +kernel)) rfl
def B_Hare_may_62 (n T : Nat) (k29 : Int32 → Int32 → Int32 → Int32 → dk_S → Option (Int32 × dk_S)) (x1 : Int32) (x2 : Int32) (x4 : Int32) (u0 : Int32) (u1 : Int32) (u2 : Int32) (S : dk_S) : Option (Int32 × dk_S) :=
  k29 x1 x2 (u0 ||| (u1 <<< (u2 &&& 31))) (x4 + (1 : Int32)) S
set_option maxRecDepth 20000 in
theorem kb_Hare_may_62 {p : Program} {l : Launch} {e : Env} {s : State} {m : MethodId} {args : Array Value} {below : List Frame} {meth : Method} {c : Code} {g : dk_G} {A : Nat → Prop} {Q : State → Prop} {ad : Nat → Nat} {T : Nat} {n : Nat} {res : (Int32 × dk_S)} (X : dk_X p s m args meth c b_Hare_may 6 R_Hare (some .int) g A) (hR : dk_Ri p l e rm_Hare_may s m args below meth c g A Q 6 b_Hare_may (some .int) (wC g ad T) res) {k29 : Int32 → Int32 → Int32 → Int32 → dk_S → Option (Int32 × dk_S)} (hk29 : ∀ (x1 : Int32) (x2 : Int32) (x3 : Int32) (x4 : Int32)  (S : dk_S), k29 x1 x2 x3 x4 S = some res → dk_J p l e rm_Hare_may s m args below meth c g A Q 6 0 0 29 [(0, .ref (ad 0)), (1, .int x1), (2, .int x2), (3, .int x3), (4, .int x4)] [] (wC g ad T S)) {x1 : Int32} {x2 : Int32} {x4 : Int32} {u0 : Int32} {u1 : Int32} {u2 : Int32} {S : dk_S}  (hF : B_Hare_may_62 n T k29 x1 x2 x4 u0 u1 u2 S = some res) : dk_J p l e rm_Hare_may s m args below meth c g A Q 6 0 0 62 [(0, .ref (ad 0)), (1, .int x1), (2, .int x2), (4, .int x4)] [.int u2, .int u1, .int u0] (wC g ad T S) := by
  unfold B_Hare_may_62 at hF
  refine dk_ishl X d_Hare_may_62 ?_
  refine dk_ior X d_Hare_may_63 ?_
  refine dk_istore_n (k := 3) (i := 3) (lv' := [(3, .int (u0 ||| (u1 <<< (u2 &&& 31)))), (0, .ref (ad 0)), (1, .int x1), (2, .int x2), (4, .int x4)]) X rfl (by decide) rfl d_Hare_may_64 ?_
  refine dk_iinc (i := 4) (v := (x4 + (1 : Int32))) (lv' := [(4, .int (x4 + (1 : Int32))), (3, .int (u0 ||| (u1 <<< (u2 &&& 31)))), (0, .ref (ad 0)), (1, .int x1), (2, .int x2)]) X 4 rfl (dk_ii _ (by decide)) (by decide) rfl d_Hare_may_65 ?_
  refine dk_goto (tgt := 29) X (by decide) d_Hare_may_68 ?_
  exact dk_sub [2, 3, 4, 1, 0] rfl (hk29 x1 x2 (u0 ||| (u1 <<< (u2 &&& 31))) (x4 + (1 : Int32)) S hF)
def B_Hare_may_29b (n T : Nat) (k29 : Int32 → Int32 → Int32 → Int32 → dk_S → Option (Int32 × dk_S)) (x1 : Int32) (x2 : Int32) (x3 : Int32) (x4 : Int32) (S : dk_S) : Option (Int32 × dk_S) :=
  if x2 ≤ x4 then (some (x3, S)) else (dk_c (F_Scene_possessorWithout n T x1 x4 S) fun r2 S1 => if ¬ r2 = (-1 : Int32) then (B_Hare_may_62 n T k29 x1 x2 x4 x3 (1 : Int32) r2 S1) else (B_Hare_may_62 n T k29 x1 x2 x4 x3 (1 : Int32) (10 : Int32) S1))
set_option maxRecDepth 20000 in
theorem kb_Hare_may_29b {p : Program} {l : Launch} {e : Env} {s : State} {m : MethodId} {args : Array Value} {below : List Frame} {meth : Method} {c : Code} {g : dk_G} {A : Nat → Prop} {Q : State → Prop} {ad : Nat → Nat} {T : Nat} {n : Nat} {res : (Int32 × dk_S)} (X : dk_X p s m args meth c b_Hare_may 6 R_Hare (some .int) g A) (hR : dk_Ri p l e rm_Hare_may s m args below meth c g A Q 6 b_Hare_may (some .int) (wC g ad T) res) {k29 : Int32 → Int32 → Int32 → Int32 → dk_S → Option (Int32 × dk_S)} (hk29 : ∀ (x1 : Int32) (x2 : Int32) (x3 : Int32) (x4 : Int32)  (S : dk_S), k29 x1 x2 x3 x4 S = some res → dk_J p l e rm_Hare_may s m args below meth c g A Q 6 0 0 29 [(0, .ref (ad 0)), (1, .int x1), (2, .int x2), (3, .int x3), (4, .int x4)] [] (wC g ad T S)) {x1 : Int32} {x2 : Int32} {x3 : Int32} {x4 : Int32} {S : dk_S}  (hF : B_Hare_may_29b n T k29 x1 x2 x3 x4 S = some res) : dk_J p l e rm_Hare_may s m args below meth c g A Q 6 0 0 29 [(0, .ref (ad 0)), (1, .int x1), (2, .int x2), (3, .int x3), (4, .int x4)] [] (wC g ad T S) := by
  unfold B_Hare_may_29b at hF
  refine dk_iload (i := 4) X 4 rfl d_Hare_may_29 ?_
  refine dk_iload_n (k := 2) (i := 2) X 2 rfl rfl d_Hare_may_31 ?_
  refine dk_icmp_ge (tgt := 71) X (by decide) d_Hare_may_32 hF (fun hF => ?_) (fun hF => ?_)
  · refine dk_iload_n (k := 3) (i := 3) X 3 rfl rfl d_Hare_may_71 ?_
    exact dk_reti hR hF d_Hare_may_72
  · refine dk_aload_n (k := 0) (i := 0) X 0 rfl rfl d_Hare_may_35 ?_
    refine dk_get X q_Hare 0 4 (by decide) (oC_Hare g ad T S) rfl f_Hare_49 d_Hare_may_36 ?_
    refine dk_iload_n (k := 1) (i := 1) X 1 rfl rfl d_Hare_may_39 ?_
    refine dk_iload (i := 4) X 4 rfl d_Hare_may_40 ?_
    refine dk_callVi X v_Scene_possessorWithout [.int x1, .int x4] (c_Scene_possessorWithout l g ad T n x1 x4 S) 18 (oC_Scene g ad T S) rfl rfl m_Hare_236 rfl rfl ⟨rfl, rfl, Nat.le_of_ble_eq_true rfl, Nat.le_of_ble_eq_true rfl, Nat.le_refl _, Nat.le_refl _⟩ (Nat.le_of_ble_eq_true rfl) d_Hare_may_42 hF (fun r2 S1 hF => ?_)
    refine dk_istore (i := 5) (lv' := [(5, .int r2), (0, .ref (ad 0)), (1, .int x1), (2, .int x2), (3, .int x3), (4, .int x4)]) X (by decide) rfl d_Hare_may_45 ?_
    refine dk_iload_n (k := 3) (i := 3) X 4 rfl rfl d_Hare_may_47 ?_
    refine dk_iconst (v := 1) X (by decide) d_Hare_may_48 ?_
    refine dk_iload (i := 5) X 0 rfl d_Hare_may_49 ?_
    refine dk_iconst (v := -1) X (by decide) d_Hare_may_51 ?_
    refine dk_icmp_ne (tgt := 60) X (by decide) d_Hare_may_52 hF (fun hF => ?_) (fun hF => ?_)
    · refine dk_iload (i := 5) X 0 rfl d_Hare_may_60 ?_
      exact dk_sub [1, 2, 3, 5] rfl (kb_Hare_may_62 (n := n) X hR hk29  hF)
    · refine dk_bipush (v := 10) X (by decide) d_Hare_may_55 ?_
      refine dk_goto (tgt := 62) X (by decide) d_Hare_may_57 ?_
      exact dk_sub [1, 2, 3, 5] rfl (kb_Hare_may_62 (n := n) X hR hk29  hF)
def B_Hare_may_29 (n T : Nat)  : Nat → Int32 → Int32 → Int32 → Int32 → dk_S → Option (Int32 × dk_S)
  | 0 => fun _ _ _ _ _ => none
  | q + 1 => fun x1 x2 x3 x4 S => B_Hare_may_29b n T (fun x1 x2 x3 x4 S => B_Hare_may_29 n T  q x1 x2 x3 x4 S) x1 x2 x3 x4 S
theorem kb_Hare_may_29 {p : Program} {l : Launch} {e : Env} {s : State} {m : MethodId} {args : Array Value} {below : List Frame} {meth : Method} {c : Code} {g : dk_G} {A : Nat → Prop} {Q : State → Prop} {ad : Nat → Nat} {T : Nat} {n : Nat} {res : (Int32 × dk_S)} (X : dk_X p s m args meth c b_Hare_may 6 R_Hare (some .int) g A) (hR : dk_Ri p l e rm_Hare_may s m args below meth c g A Q 6 b_Hare_may (some .int) (wC g ad T) res)  : ∀ (q : Nat) (x1 : Int32) (x2 : Int32) (x3 : Int32) (x4 : Int32)  (S : dk_S), B_Hare_may_29 n T  q x1 x2 x3 x4 S = some res → dk_J p l e rm_Hare_may s m args below meth c g A Q 6 0 0 29 [(0, .ref (ad 0)), (1, .int x1), (2, .int x2), (3, .int x3), (4, .int x4)] [] (wC g ad T S) := by
  intro q
  induction q with
  | zero => intro x1 x2 x3 x4  S hF; cases hF
  | succ q ih => intro x1 x2 x3 x4  S hF; exact kb_Hare_may_29b (n := n) X hR ih  hF
def B_Hare_may_0 (n T : Nat)  (x1 : Int32) (S : dk_S) : Option (Int32 × dk_S) :=
  dk_c (F_Land_hasBeast n T x1 S) fun r4 S3 => if ¬ r4 = 0 then (dk_c (F_Diary_countUnsure n T S3) fun r6 S5 => B_Hare_may_29 n T  n x1 ((1 : Int32) <<< (r6 &&& 31)) (0 : Int32) (0 : Int32) S5) else (some ((-5 : Int32), S3))
set_option maxRecDepth 20000 in
theorem kb_Hare_may_0 {p : Program} {l : Launch} {e : Env} {s : State} {m : MethodId} {args : Array Value} {below : List Frame} {meth : Method} {c : Code} {g : dk_G} {A : Nat → Prop} {Q : State → Prop} {ad : Nat → Nat} {T : Nat} {n : Nat} {res : (Int32 × dk_S)} (X : dk_X p s m args meth c b_Hare_may 6 R_Hare (some .int) g A) (hR : dk_Ri p l e rm_Hare_may s m args below meth c g A Q 6 b_Hare_may (some .int) (wC g ad T) res)  {x1 : Int32} {S : dk_S}  (hF : B_Hare_may_0 n T  x1 S = some res) : dk_J p l e rm_Hare_may s m args below meth c g A Q 6 0 0 0 [(0, .ref (ad 0)), (1, .int x1)] [] (wC g ad T S) := by
  unfold B_Hare_may_0 at hF
  refine dk_aload_n (k := 0) (i := 0) X 0 rfl rfl d_Hare_may_0 ?_
  refine dk_get X q_Hare 0 0 (by decide) (oC_Hare g ad T S) rfl f_Hare_10 d_Hare_may_1 ?_
  refine dk_iload_n (k := 1) (i := 1) X 1 rfl rfl d_Hare_may_4 ?_
  refine dk_callVi X v_Land_hasBeast [.int x1] (c_Land_hasBeast l g ad T n x1 S) 1 (oC_Land g ad T S) rfl rfl m_Hare_97 rfl rfl ⟨rfl, rfl, Nat.le_of_ble_eq_true rfl, Nat.le_of_ble_eq_true rfl, Nat.le_refl _, Nat.le_refl _⟩ (Nat.le_of_ble_eq_true rfl) d_Hare_may_5 hF (fun r4 S3 hF => ?_)
  refine dk_if_ne (tgt := 14) X (by decide) d_Hare_may_8 hF (fun hF => ?_) (fun hF => ?_)
  · refine dk_iconst (v := 1) X (by decide) d_Hare_may_14 ?_
    refine dk_aload_n (k := 0) (i := 0) X 0 rfl rfl d_Hare_may_15 ?_
    refine dk_get X q_Hare 0 1 (by decide) (oC_Hare g ad T S3) rfl f_Hare_19 d_Hare_may_16 ?_
    refine dk_callVi X v_Diary_countUnsure [] (c_Diary_countUnsure l g ad T n S3) 5 (oC_Diary g ad T S3) rfl rfl m_Hare_120 rfl rfl ⟨rfl, rfl, Nat.le_of_ble_eq_true rfl, Nat.le_of_ble_eq_true rfl, Nat.le_refl _, Nat.le_refl _⟩ (Nat.le_of_ble_eq_true rfl) d_Hare_may_19 hF (fun r6 S5 hF => ?_)
    refine dk_ishl X d_Hare_may_22 ?_
    refine dk_istore_n (k := 2) (i := 2) (lv' := [(2, .int ((1 : Int32) <<< (r6 &&& 31))), (0, .ref (ad 0)), (1, .int x1)]) X rfl (by decide) rfl d_Hare_may_23 ?_
    refine dk_iconst (v := 0) X (by decide) d_Hare_may_24 ?_
    refine dk_istore_n (k := 3) (i := 3) (lv' := [(3, .int (0 : Int32)), (2, .int ((1 : Int32) <<< (r6 &&& 31))), (0, .ref (ad 0)), (1, .int x1)]) X rfl (by decide) rfl d_Hare_may_25 ?_
    refine dk_iconst (v := 0) X (by decide) d_Hare_may_26 ?_
    refine dk_istore (i := 4) (lv' := [(4, .int (0 : Int32)), (3, .int (0 : Int32)), (2, .int ((1 : Int32) <<< (r6 &&& 31))), (0, .ref (ad 0)), (1, .int x1)]) X (by decide) rfl d_Hare_may_27 ?_
    exact dk_sub [3, 4, 2, 1, 0] rfl (kb_Hare_may_29 (n := n) X hR  n x1 ((1 : Int32) <<< (r6 &&& 31)) (0 : Int32) (0 : Int32) S5 hF)
  · refine dk_bipush (v := -5) X (by decide) d_Hare_may_11 ?_
    exact dk_reti hR hF d_Hare_may_13
def F_Hare_may (n T : Nat) (x1 : Int32) (S : dk_S) : Option (Int32 × dk_S) := B_Hare_may_0 n T x1 S
theorem c_Hare_may (l : Launch) (g : dk_G) (ad : Nat → Nat) (T n : Nat) (x1 : Int32)  (S : dk_S) : dk_Mi l g y_Hare_may b_Hare_may 6 rm_Hare_may (some .int) [.ref (ad 0), .int x1] (wC g ad T) S (F_Hare_may n T x1 S) := dk_enteri (by decide) (Nat.le_of_ble_eq_true rfl) (fun p e s m args below meth c A Q res hF X hR => (kb_Hare_may_0 (n := n) X hR  hF))
