def R_Arrays : String := "java/util/Arrays"
def R_Integer : String := "java/lang/Integer"
def R_String : String := "java/lang/String"
def R_Latin : String := "java/lang/StringLatin1"
theorem w_max : Cond.static Lib.Math.max.name ∈ dk_tb ∧ Cond.initialized "java/lang/Math" ∈ dk_tb ∧ Cond.code Lib.Math.max.name Lib.Math.max.code 2 (some .int) ∈ dk_tb := ⟨dk_in (List.mem_of_getElem? (i := 775) (by decide +kernel)) rfl, dk_in (List.mem_of_getElem? (i := 81) (by decide +kernel)) rfl, dk_in (List.mem_of_getElem? (i := 776) (by decide +kernel)) rfl⟩
theorem w_min : Cond.static Lib.Math.min.name ∈ dk_tb ∧ Cond.initialized "java/lang/Math" ∈ dk_tb ∧ Cond.code Lib.Math.min.name Lib.Math.min.code 2 (some .int) ∈ dk_tb := ⟨dk_in (List.mem_of_getElem? (i := 626) (by decide +kernel)) rfl, dk_in (List.mem_of_getElem? (i := 81) (by decide +kernel)) rfl, dk_in (List.mem_of_getElem? (i := 627) (by decide +kernel)) rfl⟩
theorem w_copy : Cond.native arraycopyName ∈ dk_tb ∧ Cond.static arraycopyName ∈ dk_tb ∧ Cond.initialized "java/lang/System" ∈ dk_tb := ⟨dk_in (List.mem_of_getElem? (i := 630) (by decide +kernel)) rfl, dk_in (List.mem_of_getElem? (i := 629) (by decide +kernel)) rfl, dk_in (List.mem_of_getElem? (i := 82) (by decide +kernel)) rfl⟩
def dk_F (S : dk_S) (k : Nat) (f : Nat → Int32) : dk_S := fun k' => if k' = k then f else S k'
theorem dk_F_n {S : dk_S} {k k2 : Nat} {f : Nat → Int32} (h : k2 ≠ k) : dk_F S k f k2 = S k2 := if_neg h
theorem dk_F_s {S : dk_S} {k : Nat} {f : Nat → Int32} : dk_F S k f k = f := if_pos rfl
def dk_cp {β : Type} (S : dk_S) (k0 k1 n0 n1 : Nat) (sp dp n : Int32) (k : dk_S → Option β) : Option β := if sp < 0 ∨ dp < 0 ∨ n < 0 ∨ n0 < sp.toNatClampNeg + n.toNatClampNeg ∨ n1 < dp.toNatClampNeg + n.toNatClampNeg then none else k (dk_F S k1 (va_cpy (S k0) (S k1) sp.toNatClampNeg dp.toNatClampNeg n.toNatClampNeg))
theorem dk_cp_out {β : Type} {S : dk_S} {k0 k1 n0 n1 : Nat} {sp dp n : Int32} {k : dk_S → Option β} {res : β} (h : dk_cp S k0 k1 n0 n1 sp dp n k = some res) : (¬ sp < 0 ∧ ¬ dp < 0 ∧ ¬ n < 0 ∧ sp.toNatClampNeg + n.toNatClampNeg ≤ n0 ∧ dp.toNatClampNeg + n.toNatClampNeg ≤ n1) ∧ k (dk_F S k1 (va_cpy (S k0) (S k1) sp.toNatClampNeg dp.toNatClampNeg n.toNatClampNeg)) = some res := by
  unfold dk_cp at h; split at h
  · cases h
  · rename_i q
    simp only [not_or, Nat.not_lt] at q
    exact ⟨q, h⟩
theorem wCt_F {g : dk_G} {ad : Nat → Nat} {S : dk_S} {t k : Nat} {f : Nat → Int32} (h : k < 1000) : wCt g ad (dk_F S k f) t = wCt g ad S t := by
  have e0 : dk_F S k f (1001 + 4 * t + 2 * 0) = S (1001 + 4 * t + 2 * 0) := dk_F_n (by omega)
  have e1 : dk_F S k f (1000 + 4 * t + 2 * 0) = S (1000 + 4 * t + 2 * 0) := dk_F_n (by omega)
  have e2 : dk_F S k f (1001 + 4 * t + 2 * 1) = S (1001 + 4 * t + 2 * 1) := dk_F_n (by omega)
  have e3 : dk_F S k f (1000 + 4 * t + 2 * 1) = S (1000 + 4 * t + 2 * 1) := dk_F_n (by omega)
  unfold wCt
  rw [e0, e1, e2, e3]
theorem wCT_F {g : dk_G} {ad : Nat → Nat} {S : dk_S} {k : Nat} {f : Nat → Int32} (h : k < 1000) : ∀ T : Nat, wCT g ad (dk_F S k f) T = wCT g ad S T
  | 0 => rfl
  | T + 1 => by rw [wCT, wCT, wCT_F h T, wCt_F h]
theorem wC_setF {g : dk_G} {ad : Nat → Nat} {T : Nat} {S : dk_S} {k q : Nat} {f : Nat → Int32} {c : Nat × va_E} (hk : k < 1000) (hq : q < 43) (h : (wC0 g ad T S).set q c = wC0 g ad T (dk_F S k f)) : (wC g ad T S).set q c = wC g ad T (dk_F S k f) := by
  unfold wC
  rw [List.set_append_left _ _ (show q < (wC0 g ad T S).length from hq), wCT_F hk, h]
section WCF
variable (g : dk_G) (ad : Nat → Nat) (T : Nat) (S : dk_S) (f : Nat → Int32)
theorem zC_2 : (wC g ad T S).set 2 (ad 2, .inl (g.2.1 0, 8, .inl f)) = wC g ad T (dk_F S 2 f) := wC_setF (by decide) (by decide) rfl
theorem zC_11 : (wC g ad T S).set 11 (ad 11, .inl (g.2.1 0, 32, .inl f)) = wC g ad T (dk_F S 11 f) := wC_setF (by decide) (by decide) rfl
theorem zC_33 : (wC g ad T S).set 33 (ad 33, .inl (g.2.1 0, 8, .inl f)) = wC g ad T (dk_F S 33 f) := wC_setF (by decide) (by decide) rfl
theorem zC_34 : (wC g ad T S).set 34 (ad 34, .inl (g.2.1 0, 32, .inl f)) = wC g ad T (dk_F S 34 f) := wC_setF (by decide) (by decide) rfl
theorem zC_row (j : Nat) (hj : j < 4) : (wC g ad T S).set (36 + 2 * j) (ad (36 + 2 * j), .inl (g.2.1 0, 40, .inl f)) = wC g ad T (dk_F S (36 + 2 * j) f) := by
  rcases (show j = 0 ∨ j = 1 ∨ j = 2 ∨ j = 3 by omega) with rfl | rfl | rfl | rfl
  all_goals exact wC_setF (by decide) (by decide) rfl
end WCF
section DK4S
variable {p : Program} {l : Launch} {e : Env} {R : Room} {s : State} {m : MethodId} {args : Array Value} {below : List Frame} {meth : Method} {c : Code} {g : dk_G} {A : Nat → Prop} {Q : State → Prop} {nL cells slots pc : Nat} {lv : List (Nat × Value)} {st st0 : List Value} {cc : ByteArray} {own : String} {ret : Option FieldType} {wd : dk_S → va_W} {S : dk_S}
theorem dk_callSv {β : Type} {res : β} {y : MethodName} {b : ByteArray} {nL2 n idx : Nat} {ret2 : Option FieldType} {rm : Room} {F : Option dk_S} {K : dk_S → Option β} (X : dk_X p s m args meth c cc nL own ret g A) (hy : dk_Ys y b nL2 ret2 n) (As : List Value) (hM : dk_Mv l g y b nL2 rm ret2 As wd S F) (hlk : Cond.methodLink own idx y ∈ dk_tb) (hst : st0 = As.reverse ++ st) (hAs : As.length = n) (hrm : rm.cells = 0 ∧ rm.slots = 0 ∧ rm.frames + 1 ≤ R.frames ∧ 8 + (nL2 + 11) + rm.locals ≤ R.locals ∧ cells ≤ R.cells ∧ slots ≤ R.slots) (hcat : (st.map fun v => v.category).sum ≤ 8) (hdg : decode cc pc = .ok (.invokestatic idx, 3)) (hF : dk_cv F K = some res)
    (kk : ∀ (S' : dk_S), K S' = some res → dk_J p l e R s m args below meth c g A Q nL cells slots (pc + 3) lv st (wd S')) : dk_J p l e R s m args below meth c g A Q nL cells slots pc lv st0 (wd S) := by
  obtain ⟨v, hv, hF⟩ := dk_cv_out hF
  intro H locs ls hP hD hS hl
  obtain ⟨h1, h2, h3, h4, h5, h6⟩ := hrm
  have hx := X
  obtain ⟨x1, x2, x3, x4, x5, x6, -⟩ := X
  refine va_callv (va_runS (As := As) (rest := st) ⟨x1, x2, x3, x4, x5⟩ (hM H.size v hv) (dk_cwS x5 hy hlk h1 h2 ⟨h3, h4⟩) ⟨dk_In_blind _ _ _ _, fun U hU hW => ⟨rfl, dk_start hx hP hD hS U hU hW⟩⟩ rfl hAs hl.1 hst (lv_room hcat) hdg ⟨h5, h6⟩) hS (fun q _ h => dk_free hx hD hS q h) (dk_free hx hD hS) (fun u t H1 locs1 ht hvm hw hB hz1 hk1 hS1 => ?_)
  obtain ⟨b1, b2, b3⟩ := hB
  subst hw
  rw [ht] at b1
  exact kk _ hF H1 locs1 ls b1 (b3.weaken (fun k q _ h => dk_free hx hD hS q.1 h)) hS1 hl
end DK4S
section DK4
variable {p : Program} {l : Launch} {e : Env} {R : Room} {s : State} {m : MethodId} {args : Array Value} {below : List Frame} {meth : Method} {c : Code} {g : dk_G} {A : Nat → Prop} {Q : State → Prop} {nL cells slots pc : Nat} {lv : List (Nat × Value)} {st : List Value} {ws : va_W} {cc : ByteArray} {own : String} {ret : Option FieldType}
theorem dk_ldcw (X : dk_X p s m args meth c cc nL own ret g A) {index : Nat} {v : Int32} (hc : Cond.constant own index v ∈ dk_tb) (hdg : decode cc pc = .ok (.ldc_w index, 3))
    (kk : dk_J p l e R s m args below meth c g A Q nL cells slots (pc + 3) lv (.int v :: st) ws) : dk_J p l e R s m args below meth c g A Q nL cells slots pc lv st ws := fun H locs ls hP hD hS hl =>
  lv_ldcw X.1 X.2.1 X.2.2.2.1 (X.2.2.2.2.1 _ hc) hdg (kk H locs ls hP hD hS hl)
theorem dk_iushr (X : dk_X p s m args meth c cc nL own ret g A) {x y : Int32} (hdg : decode cc pc = .ok (.iushr, 1))
    (kk : dk_J p l e R s m args below meth c g A Q nL cells slots (pc + 1) lv (.int (x.toUInt32 >>> (y.toUInt32 &&& Int32.toUInt32 31)).toInt32 :: st) ws) : dk_J p l e R s m args below meth c g A Q nL cells slots pc lv (.int y :: .int x :: st) ws := fun H locs ls hP hD hS hl =>
  lv_iushr X.1 X.2.1 hdg rfl (kk H locs ls hP hD hS hl)
theorem dk_mmax (X : dk_X p s m args meth c cc nL own ret g A) {index : Nat} {x y : Int32} (hlk : Cond.methodLink own index Lib.Math.max.name ∈ dk_tb) (hfr : 1 ≤ R.frames) (hlo : (st.map fun v => v.category).sum + 13 ≤ R.locals) (hc : cells ≤ R.cells) (hs : slots ≤ R.slots) (hdg : decode cc pc = .ok (.invokestatic index, 3))
    (kk : dk_J p l e R s m args below meth c g A Q nL cells slots (pc + 3) lv (.int (if x < y then y else x) :: st) ws) : dk_J p l e R s m args below meth c g A Q nL cells slots pc lv (.int y :: .int x :: st) ws := fun H locs ls hP hD hS hl =>
  va_mmax X.1 X.2.1 (X.2.2.1.trans hl.1.symm) X.2.2.2.1 (X.2.2.2.2.1 _ hlk) (X.2.2.2.2.1 _ w_max.1) (X.2.2.2.2.1 _ w_max.2.1) (X.2.2.2.2.1 _ w_max.2.2) hfr hlo hc hs hdg (kk H locs ls hP hD hS hl)
theorem dk_mmin (X : dk_X p s m args meth c cc nL own ret g A) {index : Nat} {x y : Int32} (hlk : Cond.methodLink own index Lib.Math.min.name ∈ dk_tb) (hfr : 1 ≤ R.frames) (hlo : (st.map fun v => v.category).sum + 13 ≤ R.locals) (hc : cells ≤ R.cells) (hs : slots ≤ R.slots) (hdg : decode cc pc = .ok (.invokestatic index, 3))
    (kk : dk_J p l e R s m args below meth c g A Q nL cells slots (pc + 3) lv (.int (if y < x then y else x) :: st) ws) : dk_J p l e R s m args below meth c g A Q nL cells slots pc lv (.int y :: .int x :: st) ws := fun H locs ls hP hD hS hl =>
  va_mmin X.1 X.2.1 (X.2.2.1.trans hl.1.symm) X.2.2.2.1 (X.2.2.2.2.1 _ hlk) (X.2.2.2.2.1 _ w_min.1) (X.2.2.2.2.1 _ w_min.2.1) (X.2.2.2.2.1 _ w_min.2.2) hfr hlo hc hs hdg (kk H locs ls hP hD hS hl)
theorem dk_acopy {β : Type} {res : β} {K : dk_S → Option β} {wd : dk_S → va_W} {S : dk_S} (X : dk_X p s m args meth c cc nL own ret g A) {index a0 a n0 n1 k0 k1 : Nat} {sp dp n : Int32} (q0 q1 : Nat) (ha0 : (wd S)[q0]? = some (a0, .inl (g.2.1 0, n0, .inl (S k0)))) (ha1 : (wd S)[q1]? = some (a, .inl (g.2.1 0, n1, .inl (S k1)))) (hset : (wd S).set q1 (a, .inl (g.2.1 0, n1, .inl (va_cpy (S k0) (S k1) sp.toNatClampNeg dp.toNatClampNeg n.toNatClampNeg))) = wd (dk_F S k1 (va_cpy (S k0) (S k1) sp.toNatClampNeg dp.toNatClampNeg n.toNatClampNeg))) (hlk : Cond.methodLink own index arraycopyName ∈ dk_tb) (hfr : 1 ≤ R.frames) (hlo : (st.map fun v => v.category).sum + (nativeFrameWords "java/lang/System" "arraycopy" 5 + 11) ≤ R.locals) (hdg : decode cc pc = .ok (.invokestatic index, 3)) (hF : dk_cp S k0 k1 n0 n1 sp dp n K = some res)
    (kk : ∀ S' : dk_S, K S' = some res → dk_J p l e R s m args below meth c g A Q nL cells slots (pc + 3) lv st (wd S')) : dk_J p l e R s m args below meth c g A Q nL cells slots pc lv (.int n :: .int dp :: .ref a :: .int sp :: .ref a0 :: st) (wd S) := by
  obtain ⟨⟨h1, h2, h3, h4, h5⟩, hF⟩ := dk_cp_out hF
  intro H locs ls hP hD hS hl
  exact va_copyi X.1 X.2.1 (X.2.2.1.trans hl.1.symm) X.2.2.2.1 (X.2.2.2.2.1 _ hlk) (X.2.2.2.2.1 _ w_copy.1) (X.2.2.2.2.1 _ w_copy.2.1) (X.2.2.2.2.1 _ w_copy.2.2) X.2.2.2.2.2.1 hP hD hS q0 q1 0 0 ha0 ha1 rfl rfl rfl h1 h2 h3 h4 h5 (fun _ _ => rfl) hfr hlo hdg (fun H1 locs1 hP1 hD1 hS1 => kk _ hF H1 locs1 ls (hset ▸ hP1) (hset ▸ hD1) hS1 hl)
theorem dk_shld {β : Type} {res : β} {K : Nat → Option β} {ad : Nat → Nat} {T : Nat} {S : dk_S} (X : dk_X p s m args meth c cc nL own ret g A) {i : Int32} (hdg : decode cc pc = .ok (.aaload, 1)) (hF : dk_sh i K = some res)
    (kk : ∀ j : Nat, j < 4 → K j = some res → dk_J p l e R s m args below meth c g A Q nL cells slots (pc + 1) lv (.ref (ad (35 + 2 * j)) :: st) (wC g ad T S)) : dk_J p l e R s m args below meth c g A Q nL cells slots pc lv (.int i :: .ref (ad 31) :: st) (wC g ad T S) := by
  obtain ⟨h1, hF⟩ := dk_sh_out hF
  have hj : i.toNatClampNeg < 4 := Nat.not_le.mp fun q => h1 (Or.inr q)
  intro H locs ls hP hD hS hl
  refine va_aldq X.1 X.2.1 X.2.2.2.2.2.1 hP 31 5 (aC_31 g ad T S) rfl h1 hdg ?_
  show W p l e R s m args below meth c H locs cells slots Q (F0 m (pc + 1) ls (va_rf (if i.toNatClampNeg < 4 then some (ad (35 + 2 * i.toNatClampNeg)) else none) :: st))
  rw [if_pos hj]
  exact kk _ hj hF H locs ls hP hD hS hl
end DK4

abbrev b_Arrays_fill : ByteArray := prog_19_method_103_code
def y_Arrays_fill : MethodName := ⟨R_Arrays, "fill", "([II)V"⟩
theorem d_Arrays_fill_0 : decode b_Arrays_fill 0 = .ok (.iconst 0, 1) := by decide +kernel
theorem d_Arrays_fill_1 : decode b_Arrays_fill 1 = .ok (.istore_n 2, 1) := by decide +kernel
theorem d_Arrays_fill_2 : decode b_Arrays_fill 2 = .ok (.aload_n 0, 1) := by decide +kernel
theorem d_Arrays_fill_3 : decode b_Arrays_fill 3 = .ok (.arraylength, 1) := by decide +kernel
theorem d_Arrays_fill_4 : decode b_Arrays_fill 4 = .ok (.istore_n 3, 1) := by decide +kernel
theorem d_Arrays_fill_5 : decode b_Arrays_fill 5 = .ok (.iload_n 2, 1) := by decide +kernel
theorem d_Arrays_fill_6 : decode b_Arrays_fill 6 = .ok (.iload_n 3, 1) := by decide +kernel
theorem d_Arrays_fill_7 : decode b_Arrays_fill 7 = .ok (.if_icmp .ge 13, 3) := by decide +kernel
theorem d_Arrays_fill_10 : decode b_Arrays_fill 10 = .ok (.aload_n 0, 1) := by decide +kernel
theorem d_Arrays_fill_11 : decode b_Arrays_fill 11 = .ok (.iload_n 2, 1) := by decide +kernel
theorem d_Arrays_fill_12 : decode b_Arrays_fill 12 = .ok (.iload_n 1, 1) := by decide +kernel
theorem d_Arrays_fill_13 : decode b_Arrays_fill 13 = .ok (.iastore, 1) := by decide +kernel
theorem d_Arrays_fill_14 : decode b_Arrays_fill 14 = .ok (.iinc 2 1, 3) := by decide +kernel
theorem d_Arrays_fill_17 : decode b_Arrays_fill 17 = .ok (.goto (-12), 3) := by decide +kernel
theorem d_Arrays_fill_20 : decode b_Arrays_fill 20 = .ok (.return_, 1) := by decide +kernel
theorem v_Arrays_fill : dk_Ys y_Arrays_fill b_Arrays_fill 4 (none) 2 := ⟨dk_in (List.mem_of_getElem? (i := 894) (by decide +kernel)) rfl, dk_in (List.mem_of_getElem? (i := 80) (by decide +kernel)) rfl, dk_in (List.mem_of_getElem? (i := 895) (by decide +kernel)) rfl, by decide +kernel, by decide +kernel, by decide +kernel⟩
abbrev rm_Arrays_fill : Room := { frames := 0, cells := 0, slots := 0, locals := 0 }
def B_Arrays_fill_5b (n T : Nat) (k5 : Nat → Int32 → Int32 → Int32 → dk_S → Option dk_S) (jx0 : Nat) (x1 : Int32) (x2 : Int32) (x3 : Int32) (S : dk_S) : Option dk_S :=
  if x3 ≤ x2 then (some S) else (dk_w S (36 + 2 * jx0) 40 x2 x1 fun S1 => k5 jx0 x1 (x2 + (1 : Int32)) x3 S1)
set_option maxRecDepth 20000 in
theorem kb_Arrays_fill_5b {p : Program} {l : Launch} {e : Env} {s : State} {m : MethodId} {args : Array Value} {below : List Frame} {meth : Method} {c : Code} {g : dk_G} {A : Nat → Prop} {Q : State → Prop} {ad : Nat → Nat} {T : Nat} {n : Nat} {res : dk_S} (X : dk_X p s m args meth c b_Arrays_fill 4 R_Arrays (none) g A) (hR : dk_Rv p l e rm_Arrays_fill s m args below meth c g A Q 4 b_Arrays_fill (none) (wC g ad T) res) {k5 : Nat → Int32 → Int32 → Int32 → dk_S → Option dk_S} (hk5 : ∀ (jx0 : Nat) (x1 : Int32) (x2 : Int32) (x3 : Int32) (hx0 : jx0 < 4) (S : dk_S), k5 jx0 x1 x2 x3 S = some res → dk_J p l e rm_Arrays_fill s m args below meth c g A Q 4 0 0 5 [(0, .ref (ad (36 + 2 * jx0))), (1, .int x1), (2, .int x2), (3, .int x3)] [] (wC g ad T S)) {jx0 : Nat} {x1 : Int32} {x2 : Int32} {x3 : Int32} {S : dk_S} (hx0 : jx0 < 4) (hF : B_Arrays_fill_5b n T k5 jx0 x1 x2 x3 S = some res) : dk_J p l e rm_Arrays_fill s m args below meth c g A Q 4 0 0 5 [(0, .ref (ad (36 + 2 * jx0))), (1, .int x1), (2, .int x2), (3, .int x3)] [] (wC g ad T S) := by
  unfold B_Arrays_fill_5b at hF
  refine dk_iload_n (k := 2) (i := 2) X 2 rfl rfl d_Arrays_fill_5 ?_
  refine dk_iload_n (k := 3) (i := 3) X 3 rfl rfl d_Arrays_fill_6 ?_
  refine dk_icmp_ge (tgt := 20) X (by decide) d_Arrays_fill_7 hF (fun hF => ?_) (fun hF => ?_)
  · exact dk_retv hR hF d_Arrays_fill_20
  · refine dk_aload_n (k := 0) (i := 0) X 0 rfl rfl d_Arrays_fill_10 ?_
    refine dk_iload_n (k := 2) (i := 2) X 2 rfl rfl d_Arrays_fill_11 ?_
    refine dk_iload_n (k := 1) (i := 1) X 1 rfl rfl d_Arrays_fill_12 ?_
    refine dk_iast X (36 + 2 * jx0) (aC_row g ad T S jx0 hx0) (sC_row g ad T S jx0 hx0 _ _) d_Arrays_fill_13 hF (fun S1 hF => ?_)
    refine dk_iinc (i := 2) (v := (x2 + (1 : Int32))) (lv' := [(2, .int (x2 + (1 : Int32))), (0, .ref (ad (36 + 2 * jx0))), (1, .int x1), (3, .int x3)]) X 2 rfl (dk_ii _ (by decide)) (by decide) rfl d_Arrays_fill_14 ?_
    refine dk_goto (tgt := 5) X (by decide) d_Arrays_fill_17 ?_
    exact dk_sub [1, 2, 0, 3] rfl (hk5 jx0 x1 (x2 + (1 : Int32)) x3 hx0 S1 hF)
def B_Arrays_fill_5 (n T : Nat)  : Nat → Nat → Int32 → Int32 → Int32 → dk_S → Option dk_S
  | 0 => fun _ _ _ _ _ => none
  | q + 1 => fun jx0 x1 x2 x3 S => B_Arrays_fill_5b n T (fun jx0 x1 x2 x3 S => B_Arrays_fill_5 n T  q jx0 x1 x2 x3 S) jx0 x1 x2 x3 S
theorem kb_Arrays_fill_5 {p : Program} {l : Launch} {e : Env} {s : State} {m : MethodId} {args : Array Value} {below : List Frame} {meth : Method} {c : Code} {g : dk_G} {A : Nat → Prop} {Q : State → Prop} {ad : Nat → Nat} {T : Nat} {n : Nat} {res : dk_S} (X : dk_X p s m args meth c b_Arrays_fill 4 R_Arrays (none) g A) (hR : dk_Rv p l e rm_Arrays_fill s m args below meth c g A Q 4 b_Arrays_fill (none) (wC g ad T) res)  : ∀ (q : Nat) (jx0 : Nat) (x1 : Int32) (x2 : Int32) (x3 : Int32) (hx0 : jx0 < 4) (S : dk_S), B_Arrays_fill_5 n T  q jx0 x1 x2 x3 S = some res → dk_J p l e rm_Arrays_fill s m args below meth c g A Q 4 0 0 5 [(0, .ref (ad (36 + 2 * jx0))), (1, .int x1), (2, .int x2), (3, .int x3)] [] (wC g ad T S) := by
  intro q
  induction q with
  | zero => intro jx0 x1 x2 x3 hx0 S hF; cases hF
  | succ q ih => intro jx0 x1 x2 x3 hx0 S hF; exact kb_Arrays_fill_5b (n := n) X hR ih hx0 hF
def B_Arrays_fill_0 (n T : Nat)  (jx0 : Nat) (x1 : Int32) (S : dk_S) : Option dk_S :=
  B_Arrays_fill_5 n T  n jx0 x1 (0 : Int32) (nI 40) S
set_option maxRecDepth 20000 in
theorem kb_Arrays_fill_0 {p : Program} {l : Launch} {e : Env} {s : State} {m : MethodId} {args : Array Value} {below : List Frame} {meth : Method} {c : Code} {g : dk_G} {A : Nat → Prop} {Q : State → Prop} {ad : Nat → Nat} {T : Nat} {n : Nat} {res : dk_S} (X : dk_X p s m args meth c b_Arrays_fill 4 R_Arrays (none) g A) (hR : dk_Rv p l e rm_Arrays_fill s m args below meth c g A Q 4 b_Arrays_fill (none) (wC g ad T) res)  {jx0 : Nat} {x1 : Int32} {S : dk_S} (hx0 : jx0 < 4) (hF : B_Arrays_fill_0 n T  jx0 x1 S = some res) : dk_J p l e rm_Arrays_fill s m args below meth c g A Q 4 0 0 0 [(0, .ref (ad (36 + 2 * jx0))), (1, .int x1)] [] (wC g ad T S) := by
  unfold B_Arrays_fill_0 at hF
  refine dk_iconst (v := 0) X (by decide) d_Arrays_fill_0 ?_
  refine dk_istore_n (k := 2) (i := 2) (lv' := [(2, .int (0 : Int32)), (0, .ref (ad (36 + 2 * jx0))), (1, .int x1)]) X rfl (by decide) rfl d_Arrays_fill_1 ?_
  refine dk_aload_n (k := 0) (i := 0) X 1 rfl rfl d_Arrays_fill_2 ?_
  refine dk_alen X (36 + 2 * jx0) 0 (aC_row g ad T S jx0 hx0) rfl d_Arrays_fill_3 ?_
  refine dk_istore_n (k := 3) (i := 3) (lv' := [(3, .int (nI 40)), (2, .int (0 : Int32)), (0, .ref (ad (36 + 2 * jx0))), (1, .int x1)]) X rfl (by decide) rfl d_Arrays_fill_4 ?_
  exact dk_sub [2, 3, 1, 0] rfl (kb_Arrays_fill_5 (n := n) X hR  n jx0 x1 (0 : Int32) (nI 40) hx0 S hF)
def F_Arrays_fill (n T : Nat) (jx0 : Nat) (x1 : Int32) (S : dk_S) : Option dk_S := B_Arrays_fill_0 n T jx0 x1 S
theorem c_Arrays_fill (l : Launch) (g : dk_G) (ad : Nat → Nat) (T n : Nat) (jx0 : Nat) (x1 : Int32) (hx0 : jx0 < 4) (S : dk_S) : dk_Mv l g y_Arrays_fill b_Arrays_fill 4 rm_Arrays_fill (none) [.ref (ad (36 + 2 * jx0)), .int x1] (wC g ad T) S (F_Arrays_fill n T jx0 x1 S) := dk_enterv (by decide) rfl (Nat.le_of_ble_eq_true rfl) (fun p e s m args below meth c A Q res hF X hR => (kb_Arrays_fill_0 (n := n) X hR hx0 hF))
abbrev b_Integer_bitCount : ByteArray := prog_13_method_49_code
def y_Integer_bitCount : MethodName := ⟨R_Integer, "bitCount", "(I)I"⟩
theorem d_Integer_bitCount_0 : decode b_Integer_bitCount 0 = .ok (.iload_n 0, 1) := by decide +kernel
theorem d_Integer_bitCount_1 : decode b_Integer_bitCount 1 = .ok (.iload_n 0, 1) := by decide +kernel
theorem d_Integer_bitCount_2 : decode b_Integer_bitCount 2 = .ok (.iconst 1, 1) := by decide +kernel
theorem d_Integer_bitCount_3 : decode b_Integer_bitCount 3 = .ok (.iushr, 1) := by decide +kernel
theorem d_Integer_bitCount_4 : decode b_Integer_bitCount 4 = .ok (.ldc_w 265, 3) := by decide +kernel
theorem d_Integer_bitCount_7 : decode b_Integer_bitCount 7 = .ok (.iand, 1) := by decide +kernel
theorem d_Integer_bitCount_8 : decode b_Integer_bitCount 8 = .ok (.isub, 1) := by decide +kernel
theorem d_Integer_bitCount_9 : decode b_Integer_bitCount 9 = .ok (.istore_n 0, 1) := by decide +kernel
theorem d_Integer_bitCount_10 : decode b_Integer_bitCount 10 = .ok (.iload_n 0, 1) := by decide +kernel
theorem d_Integer_bitCount_11 : decode b_Integer_bitCount 11 = .ok (.ldc_w 266, 3) := by decide +kernel
theorem d_Integer_bitCount_14 : decode b_Integer_bitCount 14 = .ok (.iand, 1) := by decide +kernel
theorem d_Integer_bitCount_15 : decode b_Integer_bitCount 15 = .ok (.iload_n 0, 1) := by decide +kernel
theorem d_Integer_bitCount_16 : decode b_Integer_bitCount 16 = .ok (.iconst 2, 1) := by decide +kernel
theorem d_Integer_bitCount_17 : decode b_Integer_bitCount 17 = .ok (.iushr, 1) := by decide +kernel
theorem d_Integer_bitCount_18 : decode b_Integer_bitCount 18 = .ok (.ldc_w 266, 3) := by decide +kernel
theorem d_Integer_bitCount_21 : decode b_Integer_bitCount 21 = .ok (.iand, 1) := by decide +kernel
theorem d_Integer_bitCount_22 : decode b_Integer_bitCount 22 = .ok (.iadd, 1) := by decide +kernel
theorem d_Integer_bitCount_23 : decode b_Integer_bitCount 23 = .ok (.istore_n 0, 1) := by decide +kernel
theorem d_Integer_bitCount_24 : decode b_Integer_bitCount 24 = .ok (.iload_n 0, 1) := by decide +kernel
theorem d_Integer_bitCount_25 : decode b_Integer_bitCount 25 = .ok (.iload_n 0, 1) := by decide +kernel
theorem d_Integer_bitCount_26 : decode b_Integer_bitCount 26 = .ok (.iconst 4, 1) := by decide +kernel
theorem d_Integer_bitCount_27 : decode b_Integer_bitCount 27 = .ok (.iushr, 1) := by decide +kernel
theorem d_Integer_bitCount_28 : decode b_Integer_bitCount 28 = .ok (.iadd, 1) := by decide +kernel
theorem d_Integer_bitCount_29 : decode b_Integer_bitCount 29 = .ok (.ldc_w 267, 3) := by decide +kernel
theorem d_Integer_bitCount_32 : decode b_Integer_bitCount 32 = .ok (.iand, 1) := by decide +kernel
theorem d_Integer_bitCount_33 : decode b_Integer_bitCount 33 = .ok (.istore_n 0, 1) := by decide +kernel
theorem d_Integer_bitCount_34 : decode b_Integer_bitCount 34 = .ok (.iload_n 0, 1) := by decide +kernel
theorem d_Integer_bitCount_35 : decode b_Integer_bitCount 35 = .ok (.iload_n 0, 1) := by decide +kernel
theorem d_Integer_bitCount_36 : decode b_Integer_bitCount 36 = .ok (.bipush 8, 2) := by decide +kernel
theorem d_Integer_bitCount_38 : decode b_Integer_bitCount 38 = .ok (.iushr, 1) := by decide +kernel
theorem d_Integer_bitCount_39 : decode b_Integer_bitCount 39 = .ok (.iadd, 1) := by decide +kernel
theorem d_Integer_bitCount_40 : decode b_Integer_bitCount 40 = .ok (.istore_n 0, 1) := by decide +kernel
theorem d_Integer_bitCount_41 : decode b_Integer_bitCount 41 = .ok (.iload_n 0, 1) := by decide +kernel
theorem d_Integer_bitCount_42 : decode b_Integer_bitCount 42 = .ok (.iload_n 0, 1) := by decide +kernel
theorem d_Integer_bitCount_43 : decode b_Integer_bitCount 43 = .ok (.bipush 16, 2) := by decide +kernel
theorem d_Integer_bitCount_45 : decode b_Integer_bitCount 45 = .ok (.iushr, 1) := by decide +kernel
theorem d_Integer_bitCount_46 : decode b_Integer_bitCount 46 = .ok (.iadd, 1) := by decide +kernel
theorem d_Integer_bitCount_47 : decode b_Integer_bitCount 47 = .ok (.istore_n 0, 1) := by decide +kernel
theorem d_Integer_bitCount_48 : decode b_Integer_bitCount 48 = .ok (.iload_n 0, 1) := by decide +kernel
theorem d_Integer_bitCount_49 : decode b_Integer_bitCount 49 = .ok (.bipush 63, 2) := by decide +kernel
theorem d_Integer_bitCount_51 : decode b_Integer_bitCount 51 = .ok (.iand, 1) := by decide +kernel
theorem d_Integer_bitCount_52 : decode b_Integer_bitCount 52 = .ok (.ireturn, 1) := by decide +kernel
theorem v_Integer_bitCount : dk_Ys y_Integer_bitCount b_Integer_bitCount 1 (some .int) 1 := ⟨dk_in (List.mem_of_getElem? (i := 842) (by decide +kernel)) rfl, dk_in (List.mem_of_getElem? (i := 83) (by decide +kernel)) rfl, dk_in (List.mem_of_getElem? (i := 843) (by decide +kernel)) rfl, by decide +kernel, by decide +kernel, by decide +kernel⟩
abbrev rm_Integer_bitCount : Room := { frames := 0, cells := 0, slots := 0, locals := 0 }
theorem k_Integer_265 : Cond.constant R_Integer 265 (1431655765) ∈ dk_tb := dk_in (List.mem_of_getElem? (i := 844) (by decide +kernel)) rfl
theorem k_Integer_266 : Cond.constant R_Integer 266 (858993459) ∈ dk_tb := dk_in (List.mem_of_getElem? (i := 845) (by decide +kernel)) rfl
theorem k_Integer_267 : Cond.constant R_Integer 267 (252645135) ∈ dk_tb := dk_in (List.mem_of_getElem? (i := 846) (by decide +kernel)) rfl
def B_Integer_bitCount_0 (n T : Nat)  (x0 : Int32) (S : dk_S) : Option (Int32 × dk_S) :=
  some (((((((((x0 - ((x0.toUInt32 >>> ((1 : Int32).toUInt32 &&& Int32.toUInt32 31)).toInt32 &&& (1431655765 : Int32))) &&& (858993459 : Int32)) + (((x0 - ((x0.toUInt32 >>> ((1 : Int32).toUInt32 &&& Int32.toUInt32 31)).toInt32 &&& (1431655765 : Int32))).toUInt32 >>> ((2 : Int32).toUInt32 &&& Int32.toUInt32 31)).toInt32 &&& (858993459 : Int32))) + ((((x0 - ((x0.toUInt32 >>> ((1 : Int32).toUInt32 &&& Int32.toUInt32 31)).toInt32 &&& (1431655765 : Int32))) &&& (858993459 : Int32)) + (((x0 - ((x0.toUInt32 >>> ((1 : Int32).toUInt32 &&& Int32.toUInt32 31)).toInt32 &&& (1431655765 : Int32))).toUInt32 >>> ((2 : Int32).toUInt32 &&& Int32.toUInt32 31)).toInt32 &&& (858993459 : Int32))).toUInt32 >>> ((4 : Int32).toUInt32 &&& Int32.toUInt32 31)).toInt32) &&& (252645135 : Int32)) + ((((((x0 - ((x0.toUInt32 >>> ((1 : Int32).toUInt32 &&& Int32.toUInt32 31)).toInt32 &&& (1431655765 : Int32))) &&& (858993459 : Int32)) + (((x0 - ((x0.toUInt32 >>> ((1 : Int32).toUInt32 &&& Int32.toUInt32 31)).toInt32 &&& (1431655765 : Int32))).toUInt32 >>> ((2 : Int32).toUInt32 &&& Int32.toUInt32 31)).toInt32 &&& (858993459 : Int32))) + ((((x0 - ((x0.toUInt32 >>> ((1 : Int32).toUInt32 &&& Int32.toUInt32 31)).toInt32 &&& (1431655765 : Int32))) &&& (858993459 : Int32)) + (((x0 - ((x0.toUInt32 >>> ((1 : Int32).toUInt32 &&& Int32.toUInt32 31)).toInt32 &&& (1431655765 : Int32))).toUInt32 >>> ((2 : Int32).toUInt32 &&& Int32.toUInt32 31)).toInt32 &&& (858993459 : Int32))).toUInt32 >>> ((4 : Int32).toUInt32 &&& Int32.toUInt32 31)).toInt32) &&& (252645135 : Int32)).toUInt32 >>> ((8 : Int32).toUInt32 &&& Int32.toUInt32 31)).toInt32) + (((((((x0 - ((x0.toUInt32 >>> ((1 : Int32).toUInt32 &&& Int32.toUInt32 31)).toInt32 &&& (1431655765 : Int32))) &&& (858993459 : Int32)) + (((x0 - ((x0.toUInt32 >>> ((1 : Int32).toUInt32 &&& Int32.toUInt32 31)).toInt32 &&& (1431655765 : Int32))).toUInt32 >>> ((2 : Int32).toUInt32 &&& Int32.toUInt32 31)).toInt32 &&& (858993459 : Int32))) + ((((x0 - ((x0.toUInt32 >>> ((1 : Int32).toUInt32 &&& Int32.toUInt32 31)).toInt32 &&& (1431655765 : Int32))) &&& (858993459 : Int32)) + (((x0 - ((x0.toUInt32 >>> ((1 : Int32).toUInt32 &&& Int32.toUInt32 31)).toInt32 &&& (1431655765 : Int32))).toUInt32 >>> ((2 : Int32).toUInt32 &&& Int32.toUInt32 31)).toInt32 &&& (858993459 : Int32))).toUInt32 >>> ((4 : Int32).toUInt32 &&& Int32.toUInt32 31)).toInt32) &&& (252645135 : Int32)) + ((((((x0 - ((x0.toUInt32 >>> ((1 : Int32).toUInt32 &&& Int32.toUInt32 31)).toInt32 &&& (1431655765 : Int32))) &&& (858993459 : Int32)) + (((x0 - ((x0.toUInt32 >>> ((1 : Int32).toUInt32 &&& Int32.toUInt32 31)).toInt32 &&& (1431655765 : Int32))).toUInt32 >>> ((2 : Int32).toUInt32 &&& Int32.toUInt32 31)).toInt32 &&& (858993459 : Int32))) + ((((x0 - ((x0.toUInt32 >>> ((1 : Int32).toUInt32 &&& Int32.toUInt32 31)).toInt32 &&& (1431655765 : Int32))) &&& (858993459 : Int32)) + (((x0 - ((x0.toUInt32 >>> ((1 : Int32).toUInt32 &&& Int32.toUInt32 31)).toInt32 &&& (1431655765 : Int32))).toUInt32 >>> ((2 : Int32).toUInt32 &&& Int32.toUInt32 31)).toInt32 &&& (858993459 : Int32))).toUInt32 >>> ((4 : Int32).toUInt32 &&& Int32.toUInt32 31)).toInt32) &&& (252645135 : Int32)).toUInt32 >>> ((8 : Int32).toUInt32 &&& Int32.toUInt32 31)).toInt32).toUInt32 >>> ((16 : Int32).toUInt32 &&& Int32.toUInt32 31)).toInt32) &&& (63 : Int32)), S)
set_option maxRecDepth 20000 in
theorem kb_Integer_bitCount_0 {p : Program} {l : Launch} {e : Env} {s : State} {m : MethodId} {args : Array Value} {below : List Frame} {meth : Method} {c : Code} {g : dk_G} {A : Nat → Prop} {Q : State → Prop} {ad : Nat → Nat} {T : Nat} {n : Nat} {res : (Int32 × dk_S)} (X : dk_X p s m args meth c b_Integer_bitCount 1 R_Integer (some .int) g A) (hR : dk_Ri p l e rm_Integer_bitCount s m args below meth c g A Q 1 b_Integer_bitCount (some .int) (wC g ad T) res)  {x0 : Int32} {S : dk_S}  (hF : B_Integer_bitCount_0 n T  x0 S = some res) : dk_J p l e rm_Integer_bitCount s m args below meth c g A Q 1 0 0 0 [(0, .int x0)] [] (wC g ad T S) := by
  unfold B_Integer_bitCount_0 at hF
  refine dk_iload_n (k := 0) (i := 0) X 0 rfl rfl d_Integer_bitCount_0 ?_
  refine dk_iload_n (k := 0) (i := 0) X 0 rfl rfl d_Integer_bitCount_1 ?_
  refine dk_iconst (v := 1) X (by decide) d_Integer_bitCount_2 ?_
  refine dk_iushr X d_Integer_bitCount_3 ?_
  refine dk_ldcw (v := 1431655765) X k_Integer_265 d_Integer_bitCount_4 ?_
  refine dk_iand X d_Integer_bitCount_7 ?_
  refine dk_isub X d_Integer_bitCount_8 ?_
  refine dk_istore_n (k := 0) (i := 0) (lv' := [(0, .int (x0 - ((x0.toUInt32 >>> ((1 : Int32).toUInt32 &&& Int32.toUInt32 31)).toInt32 &&& (1431655765 : Int32))))]) X rfl (by decide) rfl d_Integer_bitCount_9 ?_
  refine dk_iload_n (k := 0) (i := 0) X 0 rfl rfl d_Integer_bitCount_10 ?_
  refine dk_ldcw (v := 858993459) X k_Integer_266 d_Integer_bitCount_11 ?_
  refine dk_iand X d_Integer_bitCount_14 ?_
  refine dk_iload_n (k := 0) (i := 0) X 0 rfl rfl d_Integer_bitCount_15 ?_
  refine dk_iconst (v := 2) X (by decide) d_Integer_bitCount_16 ?_
  refine dk_iushr X d_Integer_bitCount_17 ?_
  refine dk_ldcw (v := 858993459) X k_Integer_266 d_Integer_bitCount_18 ?_
  refine dk_iand X d_Integer_bitCount_21 ?_
  refine dk_iadd X d_Integer_bitCount_22 ?_
  refine dk_istore_n (k := 0) (i := 0) (lv' := [(0, .int (((x0 - ((x0.toUInt32 >>> ((1 : Int32).toUInt32 &&& Int32.toUInt32 31)).toInt32 &&& (1431655765 : Int32))) &&& (858993459 : Int32)) + (((x0 - ((x0.toUInt32 >>> ((1 : Int32).toUInt32 &&& Int32.toUInt32 31)).toInt32 &&& (1431655765 : Int32))).toUInt32 >>> ((2 : Int32).toUInt32 &&& Int32.toUInt32 31)).toInt32 &&& (858993459 : Int32))))]) X rfl (by decide) rfl d_Integer_bitCount_23 ?_
  refine dk_iload_n (k := 0) (i := 0) X 0 rfl rfl d_Integer_bitCount_24 ?_
  refine dk_iload_n (k := 0) (i := 0) X 0 rfl rfl d_Integer_bitCount_25 ?_
  refine dk_iconst (v := 4) X (by decide) d_Integer_bitCount_26 ?_
  refine dk_iushr X d_Integer_bitCount_27 ?_
  refine dk_iadd X d_Integer_bitCount_28 ?_
  refine dk_ldcw (v := 252645135) X k_Integer_267 d_Integer_bitCount_29 ?_
  refine dk_iand X d_Integer_bitCount_32 ?_
  refine dk_istore_n (k := 0) (i := 0) (lv' := [(0, .int (((((x0 - ((x0.toUInt32 >>> ((1 : Int32).toUInt32 &&& Int32.toUInt32 31)).toInt32 &&& (1431655765 : Int32))) &&& (858993459 : Int32)) + (((x0 - ((x0.toUInt32 >>> ((1 : Int32).toUInt32 &&& Int32.toUInt32 31)).toInt32 &&& (1431655765 : Int32))).toUInt32 >>> ((2 : Int32).toUInt32 &&& Int32.toUInt32 31)).toInt32 &&& (858993459 : Int32))) + ((((x0 - ((x0.toUInt32 >>> ((1 : Int32).toUInt32 &&& Int32.toUInt32 31)).toInt32 &&& (1431655765 : Int32))) &&& (858993459 : Int32)) + (((x0 - ((x0.toUInt32 >>> ((1 : Int32).toUInt32 &&& Int32.toUInt32 31)).toInt32 &&& (1431655765 : Int32))).toUInt32 >>> ((2 : Int32).toUInt32 &&& Int32.toUInt32 31)).toInt32 &&& (858993459 : Int32))).toUInt32 >>> ((4 : Int32).toUInt32 &&& Int32.toUInt32 31)).toInt32) &&& (252645135 : Int32)))]) X rfl (by decide) rfl d_Integer_bitCount_33 ?_
  refine dk_iload_n (k := 0) (i := 0) X 0 rfl rfl d_Integer_bitCount_34 ?_
  refine dk_iload_n (k := 0) (i := 0) X 0 rfl rfl d_Integer_bitCount_35 ?_
  refine dk_bipush (v := 8) X (by decide) d_Integer_bitCount_36 ?_
  refine dk_iushr X d_Integer_bitCount_38 ?_
  refine dk_iadd X d_Integer_bitCount_39 ?_
  refine dk_istore_n (k := 0) (i := 0) (lv' := [(0, .int ((((((x0 - ((x0.toUInt32 >>> ((1 : Int32).toUInt32 &&& Int32.toUInt32 31)).toInt32 &&& (1431655765 : Int32))) &&& (858993459 : Int32)) + (((x0 - ((x0.toUInt32 >>> ((1 : Int32).toUInt32 &&& Int32.toUInt32 31)).toInt32 &&& (1431655765 : Int32))).toUInt32 >>> ((2 : Int32).toUInt32 &&& Int32.toUInt32 31)).toInt32 &&& (858993459 : Int32))) + ((((x0 - ((x0.toUInt32 >>> ((1 : Int32).toUInt32 &&& Int32.toUInt32 31)).toInt32 &&& (1431655765 : Int32))) &&& (858993459 : Int32)) + (((x0 - ((x0.toUInt32 >>> ((1 : Int32).toUInt32 &&& Int32.toUInt32 31)).toInt32 &&& (1431655765 : Int32))).toUInt32 >>> ((2 : Int32).toUInt32 &&& Int32.toUInt32 31)).toInt32 &&& (858993459 : Int32))).toUInt32 >>> ((4 : Int32).toUInt32 &&& Int32.toUInt32 31)).toInt32) &&& (252645135 : Int32)) + ((((((x0 - ((x0.toUInt32 >>> ((1 : Int32).toUInt32 &&& Int32.toUInt32 31)).toInt32 &&& (1431655765 : Int32))) &&& (858993459 : Int32)) + (((x0 - ((x0.toUInt32 >>> ((1 : Int32).toUInt32 &&& Int32.toUInt32 31)).toInt32 &&& (1431655765 : Int32))).toUInt32 >>> ((2 : Int32).toUInt32 &&& Int32.toUInt32 31)).toInt32 &&& (858993459 : Int32))) + ((((x0 - ((x0.toUInt32 >>> ((1 : Int32).toUInt32 &&& Int32.toUInt32 31)).toInt32 &&& (1431655765 : Int32))) &&& (858993459 : Int32)) + (((x0 - ((x0.toUInt32 >>> ((1 : Int32).toUInt32 &&& Int32.toUInt32 31)).toInt32 &&& (1431655765 : Int32))).toUInt32 >>> ((2 : Int32).toUInt32 &&& Int32.toUInt32 31)).toInt32 &&& (858993459 : Int32))).toUInt32 >>> ((4 : Int32).toUInt32 &&& Int32.toUInt32 31)).toInt32) &&& (252645135 : Int32)).toUInt32 >>> ((8 : Int32).toUInt32 &&& Int32.toUInt32 31)).toInt32))]) X rfl (by decide) rfl d_Integer_bitCount_40 ?_
  refine dk_iload_n (k := 0) (i := 0) X 0 rfl rfl d_Integer_bitCount_41 ?_
  refine dk_iload_n (k := 0) (i := 0) X 0 rfl rfl d_Integer_bitCount_42 ?_
  refine dk_bipush (v := 16) X (by decide) d_Integer_bitCount_43 ?_
  refine dk_iushr X d_Integer_bitCount_45 ?_
  refine dk_iadd X d_Integer_bitCount_46 ?_
  refine dk_istore_n (k := 0) (i := 0) (lv' := [(0, .int (((((((x0 - ((x0.toUInt32 >>> ((1 : Int32).toUInt32 &&& Int32.toUInt32 31)).toInt32 &&& (1431655765 : Int32))) &&& (858993459 : Int32)) + (((x0 - ((x0.toUInt32 >>> ((1 : Int32).toUInt32 &&& Int32.toUInt32 31)).toInt32 &&& (1431655765 : Int32))).toUInt32 >>> ((2 : Int32).toUInt32 &&& Int32.toUInt32 31)).toInt32 &&& (858993459 : Int32))) + ((((x0 - ((x0.toUInt32 >>> ((1 : Int32).toUInt32 &&& Int32.toUInt32 31)).toInt32 &&& (1431655765 : Int32))) &&& (858993459 : Int32)) + (((x0 - ((x0.toUInt32 >>> ((1 : Int32).toUInt32 &&& Int32.toUInt32 31)).toInt32 &&& (1431655765 : Int32))).toUInt32 >>> ((2 : Int32).toUInt32 &&& Int32.toUInt32 31)).toInt32 &&& (858993459 : Int32))).toUInt32 >>> ((4 : Int32).toUInt32 &&& Int32.toUInt32 31)).toInt32) &&& (252645135 : Int32)) + ((((((x0 - ((x0.toUInt32 >>> ((1 : Int32).toUInt32 &&& Int32.toUInt32 31)).toInt32 &&& (1431655765 : Int32))) &&& (858993459 : Int32)) + (((x0 - ((x0.toUInt32 >>> ((1 : Int32).toUInt32 &&& Int32.toUInt32 31)).toInt32 &&& (1431655765 : Int32))).toUInt32 >>> ((2 : Int32).toUInt32 &&& Int32.toUInt32 31)).toInt32 &&& (858993459 : Int32))) + ((((x0 - ((x0.toUInt32 >>> ((1 : Int32).toUInt32 &&& Int32.toUInt32 31)).toInt32 &&& (1431655765 : Int32))) &&& (858993459 : Int32)) + (((x0 - ((x0.toUInt32 >>> ((1 : Int32).toUInt32 &&& Int32.toUInt32 31)).toInt32 &&& (1431655765 : Int32))).toUInt32 >>> ((2 : Int32).toUInt32 &&& Int32.toUInt32 31)).toInt32 &&& (858993459 : Int32))).toUInt32 >>> ((4 : Int32).toUInt32 &&& Int32.toUInt32 31)).toInt32) &&& (252645135 : Int32)).toUInt32 >>> ((8 : Int32).toUInt32 &&& Int32.toUInt32 31)).toInt32) + (((((((x0 - ((x0.toUInt32 >>> ((1 : Int32).toUInt32 &&& Int32.toUInt32 31)).toInt32 &&& (1431655765 : Int32))) &&& (858993459 : Int32)) + (((x0 - ((x0.toUInt32 >>> ((1 : Int32).toUInt32 &&& Int32.toUInt32 31)).toInt32 &&& (1431655765 : Int32))).toUInt32 >>> ((2 : Int32).toUInt32 &&& Int32.toUInt32 31)).toInt32 &&& (858993459 : Int32))) + ((((x0 - ((x0.toUInt32 >>> ((1 : Int32).toUInt32 &&& Int32.toUInt32 31)).toInt32 &&& (1431655765 : Int32))) &&& (858993459 : Int32)) + (((x0 - ((x0.toUInt32 >>> ((1 : Int32).toUInt32 &&& Int32.toUInt32 31)).toInt32 &&& (1431655765 : Int32))).toUInt32 >>> ((2 : Int32).toUInt32 &&& Int32.toUInt32 31)).toInt32 &&& (858993459 : Int32))).toUInt32 >>> ((4 : Int32).toUInt32 &&& Int32.toUInt32 31)).toInt32) &&& (252645135 : Int32)) + ((((((x0 - ((x0.toUInt32 >>> ((1 : Int32).toUInt32 &&& Int32.toUInt32 31)).toInt32 &&& (1431655765 : Int32))) &&& (858993459 : Int32)) + (((x0 - ((x0.toUInt32 >>> ((1 : Int32).toUInt32 &&& Int32.toUInt32 31)).toInt32 &&& (1431655765 : Int32))).toUInt32 >>> ((2 : Int32).toUInt32 &&& Int32.toUInt32 31)).toInt32 &&& (858993459 : Int32))) + ((((x0 - ((x0.toUInt32 >>> ((1 : Int32).toUInt32 &&& Int32.toUInt32 31)).toInt32 &&& (1431655765 : Int32))) &&& (858993459 : Int32)) + (((x0 - ((x0.toUInt32 >>> ((1 : Int32).toUInt32 &&& Int32.toUInt32 31)).toInt32 &&& (1431655765 : Int32))).toUInt32 >>> ((2 : Int32).toUInt32 &&& Int32.toUInt32 31)).toInt32 &&& (858993459 : Int32))).toUInt32 >>> ((4 : Int32).toUInt32 &&& Int32.toUInt32 31)).toInt32) &&& (252645135 : Int32)).toUInt32 >>> ((8 : Int32).toUInt32 &&& Int32.toUInt32 31)).toInt32).toUInt32 >>> ((16 : Int32).toUInt32 &&& Int32.toUInt32 31)).toInt32))]) X rfl (by decide) rfl d_Integer_bitCount_47 ?_
  refine dk_iload_n (k := 0) (i := 0) X 0 rfl rfl d_Integer_bitCount_48 ?_
  refine dk_bipush (v := 63) X (by decide) d_Integer_bitCount_49 ?_
  refine dk_iand X d_Integer_bitCount_51 ?_
  exact dk_reti hR hF d_Integer_bitCount_52
def F_Integer_bitCount (n T : Nat) (x0 : Int32) (S : dk_S) : Option (Int32 × dk_S) := B_Integer_bitCount_0 n T x0 S
theorem c_Integer_bitCount (l : Launch) (g : dk_G) (ad : Nat → Nat) (T n : Nat) (x0 : Int32)  (S : dk_S) : dk_Mi l g y_Integer_bitCount b_Integer_bitCount 1 rm_Integer_bitCount (some .int) [.int x0] (wC g ad T) S (F_Integer_bitCount n T x0 S) := dk_enteri (by decide) (Nat.le_of_ble_eq_true rfl) (fun p e s m args below meth c A Q res hF X hR => (kb_Integer_bitCount_0 (n := n) X hR  hF))
abbrev b_Sheet_isMissing : ByteArray := prog_8_method_2_code
def y_Sheet_isMissing : MethodName := ⟨R_Sheet, "isMissing", "()Z"⟩
theorem d_Sheet_isMissing_0 : decode b_Sheet_isMissing 0 = .ok (.aload_n 0, 1) := by decide +kernel
theorem d_Sheet_isMissing_1 : decode b_Sheet_isMissing 1 = .ok (.getfield 15, 3) := by decide +kernel
theorem d_Sheet_isMissing_4 : decode b_Sheet_isMissing 4 = .ok (.iconst (-1), 1) := by decide +kernel
theorem d_Sheet_isMissing_5 : decode b_Sheet_isMissing 5 = .ok (.if_icmp .ne 7, 3) := by decide +kernel
theorem d_Sheet_isMissing_8 : decode b_Sheet_isMissing 8 = .ok (.iconst 1, 1) := by decide +kernel
theorem d_Sheet_isMissing_9 : decode b_Sheet_isMissing 9 = .ok (.goto 4, 3) := by decide +kernel
theorem d_Sheet_isMissing_12 : decode b_Sheet_isMissing 12 = .ok (.iconst 0, 1) := by decide +kernel
theorem d_Sheet_isMissing_13 : decode b_Sheet_isMissing 13 = .ok (.ireturn, 1) := by decide +kernel
theorem v_Sheet_isMissing : dk_Yv y_Sheet_isMissing b_Sheet_isMissing 1 (some .boolean) 0 := ⟨dk_in (List.mem_of_getElem? (i := 816) (by decide +kernel)) rfl, dk_in (List.mem_of_getElem? (i := 817) (by decide +kernel)) rfl, dk_in (List.mem_of_getElem? (i := 73) (by decide +kernel)) rfl, dk_in (List.mem_of_getElem? (i := 818) (by decide +kernel)) rfl, by decide +kernel, by decide +kernel, by decide +kernel⟩
abbrev rm_Sheet_isMissing : Room := { frames := 0, cells := 0, slots := 0, locals := 0 }
theorem f_Sheet_15 : Cond.fieldLink R_Sheet 15 (T_Sheet 1).1 (T_Sheet 1).2.1 (T_Sheet 1).2.2.1 ∈ dk_tb := dk_in (List.mem_of_getElem? (i := 334) (by decide +kernel)) rfl
def B_Sheet_isMissing_0 (n T : Nat)  (jx0 : Nat) (S : dk_S) : Option (Int32 × dk_S) :=
  if ¬ (S (160 + jx0) 0) = (-1 : Int32) then (dk_b (0 : Int32) (some ((0 : Int32), S))) else (dk_b (1 : Int32) (some ((1 : Int32), S)))
set_option maxRecDepth 20000 in
theorem kb_Sheet_isMissing_0 {p : Program} {l : Launch} {e : Env} {s : State} {m : MethodId} {args : Array Value} {below : List Frame} {meth : Method} {c : Code} {g : dk_G} {A : Nat → Prop} {Q : State → Prop} {ad : Nat → Nat} {T : Nat} {n : Nat} {res : (Int32 × dk_S)} (X : dk_X p s m args meth c b_Sheet_isMissing 1 R_Sheet (some .boolean) g A) (hR : dk_Ri p l e rm_Sheet_isMissing s m args below meth c g A Q 1 b_Sheet_isMissing (some .boolean) (wC g ad T) res)  {jx0 : Nat} {S : dk_S} (hx0 : jx0 < 4) (hF : B_Sheet_isMissing_0 n T  jx0 S = some res) : dk_J p l e rm_Sheet_isMissing s m args below meth c g A Q 1 0 0 0 [(0, .ref (ad (35 + 2 * jx0)))] [] (wC g ad T S) := by
  unfold B_Sheet_isMissing_0 at hF
  refine dk_aload_n (k := 0) (i := 0) X 0 rfl rfl d_Sheet_isMissing_0 ?_
  refine dk_get X q_Sheet (35 + 2 * jx0) 1 (by decide) (oC_Sheet g ad T S jx0 hx0) rfl f_Sheet_15 d_Sheet_isMissing_1 ?_
  refine dk_iconst (v := -1) X (by decide) d_Sheet_isMissing_4 ?_
  refine dk_icmp_ne (tgt := 12) X (by decide) d_Sheet_isMissing_5 hF (fun hF => ?_) (fun hF => ?_)
  · refine dk_iconst (v := 0) X (by decide) d_Sheet_isMissing_12 ?_
    exact dk_retz hR hF d_Sheet_isMissing_13
  · refine dk_iconst (v := 1) X (by decide) d_Sheet_isMissing_8 ?_
    refine dk_goto (tgt := 13) X (by decide) d_Sheet_isMissing_9 ?_
    exact dk_retz hR hF d_Sheet_isMissing_13
def F_Sheet_isMissing (n T : Nat) (jx0 : Nat) (S : dk_S) : Option (Int32 × dk_S) := B_Sheet_isMissing_0 n T jx0 S
theorem c_Sheet_isMissing (l : Launch) (g : dk_G) (ad : Nat → Nat) (T n : Nat) (jx0 : Nat) (hx0 : jx0 < 4) (S : dk_S) : dk_Mi l g y_Sheet_isMissing b_Sheet_isMissing 1 rm_Sheet_isMissing (some .boolean) [.ref (ad (35 + 2 * jx0))] (wC g ad T) S (F_Sheet_isMissing n T jx0 S) := dk_enteri (by decide) (Nat.le_of_ble_eq_true rfl) (fun p e s m args below meth c A Q res hF X hR => (kb_Sheet_isMissing_0 (n := n) X hR hx0 hF))
abbrev b_Sheet_has : ByteArray := prog_8_method_3_code
def y_Sheet_has : MethodName := ⟨R_Sheet, "has", "(I)Z"⟩
theorem d_Sheet_has_0 : decode b_Sheet_has 0 = .ok (.iload_n 1, 1) := by decide +kernel
theorem d_Sheet_has_1 : decode b_Sheet_has 1 = .ok (.ifCond .lt 15, 3) := by decide +kernel
theorem d_Sheet_has_4 : decode b_Sheet_has 4 = .ok (.iload_n 1, 1) := by decide +kernel
theorem d_Sheet_has_5 : decode b_Sheet_has 5 = .ok (.aload_n 0, 1) := by decide +kernel
theorem d_Sheet_has_6 : decode b_Sheet_has 6 = .ok (.getfield 19, 3) := by decide +kernel
theorem d_Sheet_has_9 : decode b_Sheet_has 9 = .ok (.if_icmp .ge 7, 3) := by decide +kernel
theorem d_Sheet_has_12 : decode b_Sheet_has 12 = .ok (.iconst 1, 1) := by decide +kernel
theorem d_Sheet_has_13 : decode b_Sheet_has 13 = .ok (.goto 4, 3) := by decide +kernel
theorem d_Sheet_has_16 : decode b_Sheet_has 16 = .ok (.iconst 0, 1) := by decide +kernel
theorem d_Sheet_has_17 : decode b_Sheet_has 17 = .ok (.ireturn, 1) := by decide +kernel
theorem v_Sheet_has : dk_Yv y_Sheet_has b_Sheet_has 2 (some .boolean) 1 := ⟨dk_in (List.mem_of_getElem? (i := 901) (by decide +kernel)) rfl, dk_in (List.mem_of_getElem? (i := 902) (by decide +kernel)) rfl, dk_in (List.mem_of_getElem? (i := 73) (by decide +kernel)) rfl, dk_in (List.mem_of_getElem? (i := 903) (by decide +kernel)) rfl, by decide +kernel, by decide +kernel, by decide +kernel⟩
abbrev rm_Sheet_has : Room := { frames := 0, cells := 0, slots := 0, locals := 0 }
theorem f_Sheet_19 : Cond.fieldLink R_Sheet 19 (T_Sheet 2).1 (T_Sheet 2).2.1 (T_Sheet 2).2.2.1 ∈ dk_tb := dk_in (List.mem_of_getElem? (i := 336) (by decide +kernel)) rfl
def B_Sheet_has_0 (n T : Nat)  (jx0 : Nat) (x1 : Int32) (S : dk_S) : Option (Int32 × dk_S) :=
  if x1 < 0 then (dk_b (0 : Int32) (some ((0 : Int32), S))) else (if (S (170 + jx0) 0) ≤ x1 then (dk_b (0 : Int32) (some ((0 : Int32), S))) else (dk_b (1 : Int32) (some ((1 : Int32), S))))
set_option maxRecDepth 20000 in
theorem kb_Sheet_has_0 {p : Program} {l : Launch} {e : Env} {s : State} {m : MethodId} {args : Array Value} {below : List Frame} {meth : Method} {c : Code} {g : dk_G} {A : Nat → Prop} {Q : State → Prop} {ad : Nat → Nat} {T : Nat} {n : Nat} {res : (Int32 × dk_S)} (X : dk_X p s m args meth c b_Sheet_has 2 R_Sheet (some .boolean) g A) (hR : dk_Ri p l e rm_Sheet_has s m args below meth c g A Q 2 b_Sheet_has (some .boolean) (wC g ad T) res)  {jx0 : Nat} {x1 : Int32} {S : dk_S} (hx0 : jx0 < 4) (hF : B_Sheet_has_0 n T  jx0 x1 S = some res) : dk_J p l e rm_Sheet_has s m args below meth c g A Q 2 0 0 0 [(0, .ref (ad (35 + 2 * jx0))), (1, .int x1)] [] (wC g ad T S) := by
  unfold B_Sheet_has_0 at hF
  refine dk_iload_n (k := 1) (i := 1) X 1 rfl rfl d_Sheet_has_0 ?_
  refine dk_if_lt (tgt := 16) X (by decide) d_Sheet_has_1 hF (fun hF => ?_) (fun hF => ?_)
  · refine dk_iconst (v := 0) X (by decide) d_Sheet_has_16 ?_
    exact dk_retz hR hF d_Sheet_has_17
  · refine dk_iload_n (k := 1) (i := 1) X 1 rfl rfl d_Sheet_has_4 ?_
    refine dk_aload_n (k := 0) (i := 0) X 0 rfl rfl d_Sheet_has_5 ?_
    refine dk_get X q_Sheet (35 + 2 * jx0) 2 (by decide) (oC_Sheet g ad T S jx0 hx0) rfl f_Sheet_19 d_Sheet_has_6 ?_
    refine dk_icmp_ge (tgt := 16) X (by decide) d_Sheet_has_9 hF (fun hF => ?_) (fun hF => ?_)
    · refine dk_iconst (v := 0) X (by decide) d_Sheet_has_16 ?_
      exact dk_retz hR hF d_Sheet_has_17
    · refine dk_iconst (v := 1) X (by decide) d_Sheet_has_12 ?_
      refine dk_goto (tgt := 17) X (by decide) d_Sheet_has_13 ?_
      exact dk_retz hR hF d_Sheet_has_17
def F_Sheet_has (n T : Nat) (jx0 : Nat) (x1 : Int32) (S : dk_S) : Option (Int32 × dk_S) := B_Sheet_has_0 n T jx0 x1 S
theorem c_Sheet_has (l : Launch) (g : dk_G) (ad : Nat → Nat) (T n : Nat) (jx0 : Nat) (x1 : Int32) (hx0 : jx0 < 4) (S : dk_S) : dk_Mi l g y_Sheet_has b_Sheet_has 2 rm_Sheet_has (some .boolean) [.ref (ad (35 + 2 * jx0)), .int x1] (wC g ad T) S (F_Sheet_has n T jx0 x1 S) := dk_enteri (by decide) (Nat.le_of_ble_eq_true rfl) (fun p e s m args below meth c A Q res hF X hR => (kb_Sheet_has_0 (n := n) X hR hx0 hF))
abbrev b_Sheet_hasRun : ByteArray := prog_8_method_4_code
def y_Sheet_hasRun : MethodName := ⟨R_Sheet, "hasRun", "(II)Z"⟩
theorem d_Sheet_hasRun_0 : decode b_Sheet_hasRun 0 = .ok (.iload_n 1, 1) := by decide +kernel
theorem d_Sheet_hasRun_1 : decode b_Sheet_hasRun 1 = .ok (.ifCond .lt 29, 3) := by decide +kernel
theorem d_Sheet_hasRun_4 : decode b_Sheet_hasRun 4 = .ok (.iload_n 2, 1) := by decide +kernel
theorem d_Sheet_hasRun_5 : decode b_Sheet_hasRun 5 = .ok (.ifCond .lt 25, 3) := by decide +kernel
theorem d_Sheet_hasRun_8 : decode b_Sheet_hasRun 8 = .ok (.iload_n 1, 1) := by decide +kernel
theorem d_Sheet_hasRun_9 : decode b_Sheet_hasRun 9 = .ok (.aload_n 0, 1) := by decide +kernel
theorem d_Sheet_hasRun_10 : decode b_Sheet_hasRun 10 = .ok (.getfield 19, 3) := by decide +kernel
theorem d_Sheet_hasRun_13 : decode b_Sheet_hasRun 13 = .ok (.if_icmp .gt 17, 3) := by decide +kernel
theorem d_Sheet_hasRun_16 : decode b_Sheet_hasRun 16 = .ok (.iload_n 2, 1) := by decide +kernel
theorem d_Sheet_hasRun_17 : decode b_Sheet_hasRun 17 = .ok (.aload_n 0, 1) := by decide +kernel
theorem d_Sheet_hasRun_18 : decode b_Sheet_hasRun 18 = .ok (.getfield 19, 3) := by decide +kernel
theorem d_Sheet_hasRun_21 : decode b_Sheet_hasRun 21 = .ok (.iload_n 1, 1) := by decide +kernel
theorem d_Sheet_hasRun_22 : decode b_Sheet_hasRun 22 = .ok (.isub, 1) := by decide +kernel
theorem d_Sheet_hasRun_23 : decode b_Sheet_hasRun 23 = .ok (.if_icmp .gt 7, 3) := by decide +kernel
theorem d_Sheet_hasRun_26 : decode b_Sheet_hasRun 26 = .ok (.iconst 1, 1) := by decide +kernel
theorem d_Sheet_hasRun_27 : decode b_Sheet_hasRun 27 = .ok (.goto 4, 3) := by decide +kernel
theorem d_Sheet_hasRun_30 : decode b_Sheet_hasRun 30 = .ok (.iconst 0, 1) := by decide +kernel
theorem d_Sheet_hasRun_31 : decode b_Sheet_hasRun 31 = .ok (.ireturn, 1) := by decide +kernel
theorem v_Sheet_hasRun : dk_Yv y_Sheet_hasRun b_Sheet_hasRun 3 (some .boolean) 2 := ⟨dk_in (List.mem_of_getElem? (i := 913) (by decide +kernel)) rfl, dk_in (List.mem_of_getElem? (i := 914) (by decide +kernel)) rfl, dk_in (List.mem_of_getElem? (i := 73) (by decide +kernel)) rfl, dk_in (List.mem_of_getElem? (i := 915) (by decide +kernel)) rfl, by decide +kernel, by decide +kernel, by decide +kernel⟩
abbrev rm_Sheet_hasRun : Room := { frames := 0, cells := 0, slots := 0, locals := 0 }
def B_Sheet_hasRun_0 (n T : Nat)  (jx0 : Nat) (x1 : Int32) (x2 : Int32) (S : dk_S) : Option (Int32 × dk_S) :=
  if x1 < 0 then (dk_b (0 : Int32) (some ((0 : Int32), S))) else (if x2 < 0 then (dk_b (0 : Int32) (some ((0 : Int32), S))) else (if (S (170 + jx0) 0) < x1 then (dk_b (0 : Int32) (some ((0 : Int32), S))) else (if ((S (170 + jx0) 0) - x1) < x2 then (dk_b (0 : Int32) (some ((0 : Int32), S))) else (dk_b (1 : Int32) (some ((1 : Int32), S))))))
set_option maxRecDepth 20000 in
theorem kb_Sheet_hasRun_0 {p : Program} {l : Launch} {e : Env} {s : State} {m : MethodId} {args : Array Value} {below : List Frame} {meth : Method} {c : Code} {g : dk_G} {A : Nat → Prop} {Q : State → Prop} {ad : Nat → Nat} {T : Nat} {n : Nat} {res : (Int32 × dk_S)} (X : dk_X p s m args meth c b_Sheet_hasRun 3 R_Sheet (some .boolean) g A) (hR : dk_Ri p l e rm_Sheet_hasRun s m args below meth c g A Q 3 b_Sheet_hasRun (some .boolean) (wC g ad T) res)  {jx0 : Nat} {x1 : Int32} {x2 : Int32} {S : dk_S} (hx0 : jx0 < 4) (hF : B_Sheet_hasRun_0 n T  jx0 x1 x2 S = some res) : dk_J p l e rm_Sheet_hasRun s m args below meth c g A Q 3 0 0 0 [(0, .ref (ad (35 + 2 * jx0))), (1, .int x1), (2, .int x2)] [] (wC g ad T S) := by
  unfold B_Sheet_hasRun_0 at hF
  refine dk_iload_n (k := 1) (i := 1) X 1 rfl rfl d_Sheet_hasRun_0 ?_
  refine dk_if_lt (tgt := 30) X (by decide) d_Sheet_hasRun_1 hF (fun hF => ?_) (fun hF => ?_)
  · refine dk_iconst (v := 0) X (by decide) d_Sheet_hasRun_30 ?_
    exact dk_retz hR hF d_Sheet_hasRun_31
  · refine dk_iload_n (k := 2) (i := 2) X 2 rfl rfl d_Sheet_hasRun_4 ?_
    refine dk_if_lt (tgt := 30) X (by decide) d_Sheet_hasRun_5 hF (fun hF => ?_) (fun hF => ?_)
    · refine dk_iconst (v := 0) X (by decide) d_Sheet_hasRun_30 ?_
      exact dk_retz hR hF d_Sheet_hasRun_31
    · refine dk_iload_n (k := 1) (i := 1) X 1 rfl rfl d_Sheet_hasRun_8 ?_
      refine dk_aload_n (k := 0) (i := 0) X 0 rfl rfl d_Sheet_hasRun_9 ?_
      refine dk_get X q_Sheet (35 + 2 * jx0) 2 (by decide) (oC_Sheet g ad T S jx0 hx0) rfl f_Sheet_19 d_Sheet_hasRun_10 ?_
      refine dk_icmp_gt (tgt := 30) X (by decide) d_Sheet_hasRun_13 hF (fun hF => ?_) (fun hF => ?_)
      · refine dk_iconst (v := 0) X (by decide) d_Sheet_hasRun_30 ?_
        exact dk_retz hR hF d_Sheet_hasRun_31
      · refine dk_iload_n (k := 2) (i := 2) X 2 rfl rfl d_Sheet_hasRun_16 ?_
        refine dk_aload_n (k := 0) (i := 0) X 0 rfl rfl d_Sheet_hasRun_17 ?_
        refine dk_get X q_Sheet (35 + 2 * jx0) 2 (by decide) (oC_Sheet g ad T S jx0 hx0) rfl f_Sheet_19 d_Sheet_hasRun_18 ?_
        refine dk_iload_n (k := 1) (i := 1) X 1 rfl rfl d_Sheet_hasRun_21 ?_
        refine dk_isub X d_Sheet_hasRun_22 ?_
        refine dk_icmp_gt (tgt := 30) X (by decide) d_Sheet_hasRun_23 hF (fun hF => ?_) (fun hF => ?_)
        · refine dk_iconst (v := 0) X (by decide) d_Sheet_hasRun_30 ?_
          exact dk_retz hR hF d_Sheet_hasRun_31
        · refine dk_iconst (v := 1) X (by decide) d_Sheet_hasRun_26 ?_
          refine dk_goto (tgt := 31) X (by decide) d_Sheet_hasRun_27 ?_
          exact dk_retz hR hF d_Sheet_hasRun_31
def F_Sheet_hasRun (n T : Nat) (jx0 : Nat) (x1 : Int32) (x2 : Int32) (S : dk_S) : Option (Int32 × dk_S) := B_Sheet_hasRun_0 n T jx0 x1 x2 S
theorem c_Sheet_hasRun (l : Launch) (g : dk_G) (ad : Nat → Nat) (T n : Nat) (jx0 : Nat) (x1 : Int32) (x2 : Int32) (hx0 : jx0 < 4) (S : dk_S) : dk_Mi l g y_Sheet_hasRun b_Sheet_hasRun 3 rm_Sheet_hasRun (some .boolean) [.ref (ad (35 + 2 * jx0)), .int x1, .int x2] (wC g ad T) S (F_Sheet_hasRun n T jx0 x1 x2 S) := dk_enteri (by decide) (Nat.le_of_ble_eq_true rfl) (fun p e s m args below meth c A Q res hF X hR => (kb_Sheet_hasRun_0 (n := n) X hR hx0 hF))
abbrev b_Sheet_become : ByteArray := prog_8_method_5_code
def y_Sheet_become : MethodName := ⟨R_Sheet, "become", "(II)V"⟩
theorem d_Sheet_become_0 : decode b_Sheet_become 0 = .ok (.aload_n 0, 1) := by decide +kernel
theorem d_Sheet_become_1 : decode b_Sheet_become 1 = .ok (.iload_n 1, 1) := by decide +kernel
theorem d_Sheet_become_2 : decode b_Sheet_become 2 = .ok (.putfield 15, 3) := by decide +kernel
theorem d_Sheet_become_5 : decode b_Sheet_become 5 = .ok (.aload_n 0, 1) := by decide +kernel
theorem d_Sheet_become_6 : decode b_Sheet_become 6 = .ok (.iload_n 2, 1) := by decide +kernel
theorem d_Sheet_become_7 : decode b_Sheet_become 7 = .ok (.putfield 19, 3) := by decide +kernel
theorem d_Sheet_become_10 : decode b_Sheet_become 10 = .ok (.aload_n 0, 1) := by decide +kernel
theorem d_Sheet_become_11 : decode b_Sheet_become 11 = .ok (.getfield 9, 3) := by decide +kernel
theorem d_Sheet_become_14 : decode b_Sheet_become 14 = .ok (.iconst 0, 1) := by decide +kernel
theorem d_Sheet_become_15 : decode b_Sheet_become 15 = .ok (.invokestatic 22, 3) := by decide +kernel
theorem d_Sheet_become_18 : decode b_Sheet_become 18 = .ok (.return_, 1) := by decide +kernel
theorem v_Sheet_become : dk_Yv y_Sheet_become b_Sheet_become 3 (none) 2 := ⟨dk_in (List.mem_of_getElem? (i := 890) (by decide +kernel)) rfl, dk_in (List.mem_of_getElem? (i := 891) (by decide +kernel)) rfl, dk_in (List.mem_of_getElem? (i := 73) (by decide +kernel)) rfl, dk_in (List.mem_of_getElem? (i := 892) (by decide +kernel)) rfl, by decide +kernel, by decide +kernel, by decide +kernel⟩
abbrev rm_Sheet_become : Room := { frames := 1, cells := 0, slots := 0, locals := 23 }
theorem f_Sheet_9 : Cond.fieldLink R_Sheet 9 (T_Sheet 0).1 (T_Sheet 0).2.1 (T_Sheet 0).2.2.1 ∈ dk_tb := dk_in (List.mem_of_getElem? (i := 332) (by decide +kernel)) rfl
theorem m_Sheet_22 : Cond.methodLink R_Sheet 22 y_Arrays_fill ∈ dk_tb := dk_in (List.mem_of_getElem? (i := 893) (by decide +kernel)) rfl
def B_Sheet_become_0 (n T : Nat)  (jx0 : Nat) (x1 : Int32) (x2 : Int32) (S : dk_S) : Option dk_S :=
  dk_p S (160 + jx0) x1 fun S1 => dk_p S1 (170 + jx0) x2 fun S2 => dk_cv (F_Arrays_fill n T jx0 (0 : Int32) S2) fun S3 => some S3
set_option maxRecDepth 20000 in
theorem kb_Sheet_become_0 {p : Program} {l : Launch} {e : Env} {s : State} {m : MethodId} {args : Array Value} {below : List Frame} {meth : Method} {c : Code} {g : dk_G} {A : Nat → Prop} {Q : State → Prop} {ad : Nat → Nat} {T : Nat} {n : Nat} {res : dk_S} (X : dk_X p s m args meth c b_Sheet_become 3 R_Sheet (none) g A) (hR : dk_Rv p l e rm_Sheet_become s m args below meth c g A Q 3 b_Sheet_become (none) (wC g ad T) res)  {jx0 : Nat} {x1 : Int32} {x2 : Int32} {S : dk_S} (hx0 : jx0 < 4) (hF : B_Sheet_become_0 n T  jx0 x1 x2 S = some res) : dk_J p l e rm_Sheet_become s m args below meth c g A Q 3 0 0 0 [(0, .ref (ad (35 + 2 * jx0))), (1, .int x1), (2, .int x2)] [] (wC g ad T S) := by
  unfold B_Sheet_become_0 at hF
  refine dk_aload_n (k := 0) (i := 0) X 0 rfl rfl d_Sheet_become_0 ?_
  refine dk_iload_n (k := 1) (i := 1) X 1 rfl rfl d_Sheet_become_1 ?_
  refine dk_puti X q_Sheet (35 + 2 * jx0) 1 (by decide) (oC_Sheet g ad T S jx0 hx0) f_Sheet_15 rfl rfl (Nat.le_of_ble_eq_true rfl) (sC_Sheet_sort g ad T S jx0 hx0 _) d_Sheet_become_2 hF (fun S1 hF => ?_)
  refine dk_aload_n (k := 0) (i := 0) X 0 rfl rfl d_Sheet_become_5 ?_
  refine dk_iload_n (k := 2) (i := 2) X 2 rfl rfl d_Sheet_become_6 ?_
  refine dk_puti X q_Sheet (35 + 2 * jx0) 2 (by decide) (oC_Sheet g ad T S1 jx0 hx0) f_Sheet_19 rfl rfl (Nat.le_of_ble_eq_true rfl) (sC_Sheet_size g ad T S1 jx0 hx0 _) d_Sheet_become_7 hF (fun S2 hF => ?_)
  refine dk_aload_n (k := 0) (i := 0) X 0 rfl rfl d_Sheet_become_10 ?_
  refine dk_get X q_Sheet (35 + 2 * jx0) 0 (by decide) (oC_Sheet g ad T S2 jx0 hx0) rfl f_Sheet_9 d_Sheet_become_11 ?_
  refine dk_iconst (v := 0) X (by decide) d_Sheet_become_14 ?_
  refine dk_callSv X v_Arrays_fill [.ref (ad (36 + 2 * jx0)), .int (0 : Int32)] (c_Arrays_fill l g ad T n jx0 (0 : Int32) hx0 S2) m_Sheet_22 rfl rfl ⟨rfl, rfl, Nat.le_of_ble_eq_true rfl, Nat.le_of_ble_eq_true rfl, Nat.le_refl _, Nat.le_refl _⟩ (Nat.le_of_ble_eq_true rfl) d_Sheet_become_15 hF (fun S3 hF => ?_)
  exact dk_retv hR hF d_Sheet_become_18
def F_Sheet_become (n T : Nat) (jx0 : Nat) (x1 : Int32) (x2 : Int32) (S : dk_S) : Option dk_S := B_Sheet_become_0 n T jx0 x1 x2 S
theorem c_Sheet_become (l : Launch) (g : dk_G) (ad : Nat → Nat) (T n : Nat) (jx0 : Nat) (x1 : Int32) (x2 : Int32) (hx0 : jx0 < 4) (S : dk_S) : dk_Mv l g y_Sheet_become b_Sheet_become 3 rm_Sheet_become (none) [.ref (ad (35 + 2 * jx0)), .int x1, .int x2] (wC g ad T) S (F_Sheet_become n T jx0 x1 x2 S) := dk_enterv (by decide) rfl (Nat.le_of_ble_eq_true rfl) (fun p e s m args below meth c A Q res hF X hR => (kb_Sheet_become_0 (n := n) X hR hx0 hF))
abbrev b_Sheet_put : ByteArray := prog_8_method_6_code
def y_Sheet_put : MethodName := ⟨R_Sheet, "put", "(II)V"⟩
theorem d_Sheet_put_0 : decode b_Sheet_put 0 = .ok (.aload_n 0, 1) := by decide +kernel
theorem d_Sheet_put_1 : decode b_Sheet_put 1 = .ok (.getfield 15, 3) := by decide +kernel
theorem d_Sheet_put_4 : decode b_Sheet_put 4 = .ok (.lookupswitch 50 #[(0, 28), (1, 39)], 28) := by decide +kernel
theorem d_Sheet_put_32 : decode b_Sheet_put 32 = .ok (.aload_n 0, 1) := by decide +kernel
theorem d_Sheet_put_33 : decode b_Sheet_put 33 = .ok (.getfield 9, 3) := by decide +kernel
theorem d_Sheet_put_36 : decode b_Sheet_put 36 = .ok (.iload_n 1, 1) := by decide +kernel
theorem d_Sheet_put_37 : decode b_Sheet_put 37 = .ok (.iload_n 2, 1) := by decide +kernel
theorem d_Sheet_put_38 : decode b_Sheet_put 38 = .ok (.i2b, 1) := by decide +kernel
theorem d_Sheet_put_39 : decode b_Sheet_put 39 = .ok (.iastore, 1) := by decide +kernel
theorem d_Sheet_put_40 : decode b_Sheet_put 40 = .ok (.goto 21, 3) := by decide +kernel
theorem d_Sheet_put_43 : decode b_Sheet_put 43 = .ok (.aload_n 0, 1) := by decide +kernel
theorem d_Sheet_put_44 : decode b_Sheet_put 44 = .ok (.getfield 9, 3) := by decide +kernel
theorem d_Sheet_put_47 : decode b_Sheet_put 47 = .ok (.iload_n 1, 1) := by decide +kernel
theorem d_Sheet_put_48 : decode b_Sheet_put 48 = .ok (.iload_n 2, 1) := by decide +kernel
theorem d_Sheet_put_49 : decode b_Sheet_put 49 = .ok (.i2s, 1) := by decide +kernel
theorem d_Sheet_put_50 : decode b_Sheet_put 50 = .ok (.iastore, 1) := by decide +kernel
theorem d_Sheet_put_51 : decode b_Sheet_put 51 = .ok (.goto 10, 3) := by decide +kernel
theorem d_Sheet_put_54 : decode b_Sheet_put 54 = .ok (.aload_n 0, 1) := by decide +kernel
theorem d_Sheet_put_55 : decode b_Sheet_put 55 = .ok (.getfield 9, 3) := by decide +kernel
theorem d_Sheet_put_58 : decode b_Sheet_put 58 = .ok (.iload_n 1, 1) := by decide +kernel
theorem d_Sheet_put_59 : decode b_Sheet_put 59 = .ok (.iload_n 2, 1) := by decide +kernel
theorem d_Sheet_put_60 : decode b_Sheet_put 60 = .ok (.iastore, 1) := by decide +kernel
theorem d_Sheet_put_61 : decode b_Sheet_put 61 = .ok (.return_, 1) := by decide +kernel
theorem v_Sheet_put : dk_Yv y_Sheet_put b_Sheet_put 3 (none) 2 := ⟨dk_in (List.mem_of_getElem? (i := 905) (by decide +kernel)) rfl, dk_in (List.mem_of_getElem? (i := 906) (by decide +kernel)) rfl, dk_in (List.mem_of_getElem? (i := 73) (by decide +kernel)) rfl, dk_in (List.mem_of_getElem? (i := 907) (by decide +kernel)) rfl, by decide +kernel, by decide +kernel, by decide +kernel⟩
abbrev rm_Sheet_put : Room := { frames := 0, cells := 0, slots := 0, locals := 0 }
def B_Sheet_put_0 (n T : Nat)  (jx0 : Nat) (x1 : Int32) (x2 : Int32) (S : dk_S) : Option dk_S :=
  if (S (160 + jx0) 0) = (0 : Int32) then (dk_w S (36 + 2 * jx0) 40 x1 x2.toInt8.toInt32 fun S1 => some S1) else (if (S (160 + jx0) 0) = (1 : Int32) then (dk_w S (36 + 2 * jx0) 40 x1 x2.toInt16.toInt32 fun S2 => some S2) else (dk_w S (36 + 2 * jx0) 40 x1 x2 fun S3 => some S3))
set_option maxRecDepth 20000 in
theorem kb_Sheet_put_0 {p : Program} {l : Launch} {e : Env} {s : State} {m : MethodId} {args : Array Value} {below : List Frame} {meth : Method} {c : Code} {g : dk_G} {A : Nat → Prop} {Q : State → Prop} {ad : Nat → Nat} {T : Nat} {n : Nat} {res : dk_S} (X : dk_X p s m args meth c b_Sheet_put 3 R_Sheet (none) g A) (hR : dk_Rv p l e rm_Sheet_put s m args below meth c g A Q 3 b_Sheet_put (none) (wC g ad T) res)  {jx0 : Nat} {x1 : Int32} {x2 : Int32} {S : dk_S} (hx0 : jx0 < 4) (hF : B_Sheet_put_0 n T  jx0 x1 x2 S = some res) : dk_J p l e rm_Sheet_put s m args below meth c g A Q 3 0 0 0 [(0, .ref (ad (35 + 2 * jx0))), (1, .int x1), (2, .int x2)] [] (wC g ad T S) := by
  unfold B_Sheet_put_0 at hF
  refine dk_aload_n (k := 0) (i := 0) X 0 rfl rfl d_Sheet_put_0 ?_
  refine dk_get X q_Sheet (35 + 2 * jx0) 1 (by decide) (oC_Sheet g ad T S jx0 hx0) rfl f_Sheet_15 d_Sheet_put_1 ?_
  refine dk_if hF (fun hc0 hF => ?_) (fun hc0 hF => ?_)
  · refine dk_lsw (off := 28) (tgt := 32) X d_Sheet_put_4 (by decide) (by rw [hc0]; decide) (by decide) ?_
    refine dk_aload_n (k := 0) (i := 0) X 0 rfl rfl d_Sheet_put_32 ?_
    refine dk_get X q_Sheet (35 + 2 * jx0) 0 (by decide) (oC_Sheet g ad T S jx0 hx0) rfl f_Sheet_9 d_Sheet_put_33 ?_
    refine dk_iload_n (k := 1) (i := 1) X 1 rfl rfl d_Sheet_put_36 ?_
    refine dk_iload_n (k := 2) (i := 2) X 2 rfl rfl d_Sheet_put_37 ?_
    refine dk_i2b X d_Sheet_put_38 ?_
    refine dk_iast X (36 + 2 * jx0) (aC_row g ad T S jx0 hx0) (sC_row g ad T S jx0 hx0 _ _) d_Sheet_put_39 hF (fun S1 hF => ?_)
    refine dk_goto (tgt := 61) X (by decide) d_Sheet_put_40 ?_
    exact dk_retv hR hF d_Sheet_put_61
  · refine dk_if hF (fun hc1 hF => ?_) (fun hc1 hF => ?_)
    · refine dk_lsw (off := 39) (tgt := 43) X d_Sheet_put_4 (by decide) (by rw [hc1]; decide) (by decide) ?_
      refine dk_aload_n (k := 0) (i := 0) X 0 rfl rfl d_Sheet_put_43 ?_
      refine dk_get X q_Sheet (35 + 2 * jx0) 0 (by decide) (oC_Sheet g ad T S jx0 hx0) rfl f_Sheet_9 d_Sheet_put_44 ?_
      refine dk_iload_n (k := 1) (i := 1) X 1 rfl rfl d_Sheet_put_47 ?_
      refine dk_iload_n (k := 2) (i := 2) X 2 rfl rfl d_Sheet_put_48 ?_
      refine dk_i2s X d_Sheet_put_49 ?_
      refine dk_iast X (36 + 2 * jx0) (aC_row g ad T S jx0 hx0) (sC_row g ad T S jx0 hx0 _ _) d_Sheet_put_50 hF (fun S2 hF => ?_)
      refine dk_goto (tgt := 61) X (by decide) d_Sheet_put_51 ?_
      exact dk_retv hR hF d_Sheet_put_61
    · refine dk_lsw (off := 50) (tgt := 54) X d_Sheet_put_4 (by decide) (by show Op.lookupswitch.offset [(0, 28), (1, 39)] 50 _ = _; rw [lv_osw hc0 (by decide), lv_osw hc1 (by decide)]; rfl) (by decide) ?_
      refine dk_aload_n (k := 0) (i := 0) X 0 rfl rfl d_Sheet_put_54 ?_
      refine dk_get X q_Sheet (35 + 2 * jx0) 0 (by decide) (oC_Sheet g ad T S jx0 hx0) rfl f_Sheet_9 d_Sheet_put_55 ?_
      refine dk_iload_n (k := 1) (i := 1) X 1 rfl rfl d_Sheet_put_58 ?_
      refine dk_iload_n (k := 2) (i := 2) X 2 rfl rfl d_Sheet_put_59 ?_
      refine dk_iast X (36 + 2 * jx0) (aC_row g ad T S jx0 hx0) (sC_row g ad T S jx0 hx0 _ _) d_Sheet_put_60 hF (fun S3 hF => ?_)
      exact dk_retv hR hF d_Sheet_put_61
def F_Sheet_put (n T : Nat) (jx0 : Nat) (x1 : Int32) (x2 : Int32) (S : dk_S) : Option dk_S := B_Sheet_put_0 n T jx0 x1 x2 S
theorem c_Sheet_put (l : Launch) (g : dk_G) (ad : Nat → Nat) (T n : Nat) (jx0 : Nat) (x1 : Int32) (x2 : Int32) (hx0 : jx0 < 4) (S : dk_S) : dk_Mv l g y_Sheet_put b_Sheet_put 3 rm_Sheet_put (none) [.ref (ad (35 + 2 * jx0)), .int x1, .int x2] (wC g ad T) S (F_Sheet_put n T jx0 x1 x2 S) := dk_enterv (by decide) rfl (Nat.le_of_ble_eq_true rfl) (fun p e s m args below meth c A Q res hF X hR => (kb_Sheet_put_0 (n := n) X hR hx0 hF))
abbrev b_Image_keep : ByteArray := prog_3_method_2_code
def y_Image_keep : MethodName := ⟨R_Image, "keep", "(LWhoseHare$Land;LWhoseHare$Diary;I)V"⟩
theorem d_Image_keep_0 : decode b_Image_keep 0 = .ok (.aload_n 0, 1) := by decide +kernel
theorem d_Image_keep_1 : decode b_Image_keep 1 = .ok (.iconst 1, 1) := by decide +kernel
theorem d_Image_keep_2 : decode b_Image_keep 2 = .ok (.putfield 18, 3) := by decide +kernel
theorem d_Image_keep_5 : decode b_Image_keep 5 = .ok (.aload_n 0, 1) := by decide +kernel
theorem d_Image_keep_6 : decode b_Image_keep 6 = .ok (.iload_n 3, 1) := by decide +kernel
theorem d_Image_keep_7 : decode b_Image_keep 7 = .ok (.putfield 22, 3) := by decide +kernel
theorem d_Image_keep_10 : decode b_Image_keep 10 = .ok (.aload_n 0, 1) := by decide +kernel
theorem d_Image_keep_11 : decode b_Image_keep 11 = .ok (.aload_n 1, 1) := by decide +kernel
theorem d_Image_keep_12 : decode b_Image_keep 12 = .ok (.getfield 26, 3) := by decide +kernel
theorem d_Image_keep_15 : decode b_Image_keep 15 = .ok (.putfield 31, 3) := by decide +kernel
theorem d_Image_keep_18 : decode b_Image_keep 18 = .ok (.aload_n 0, 1) := by decide +kernel
theorem d_Image_keep_19 : decode b_Image_keep 19 = .ok (.aload_n 2, 1) := by decide +kernel
theorem d_Image_keep_20 : decode b_Image_keep 20 = .ok (.getfield 32, 3) := by decide +kernel
theorem d_Image_keep_23 : decode b_Image_keep 23 = .ok (.putfield 37, 3) := by decide +kernel
theorem d_Image_keep_26 : decode b_Image_keep 26 = .ok (.aload_n 1, 1) := by decide +kernel
theorem d_Image_keep_27 : decode b_Image_keep 27 = .ok (.getfield 40, 3) := by decide +kernel
theorem d_Image_keep_30 : decode b_Image_keep 30 = .ok (.iconst 0, 1) := by decide +kernel
theorem d_Image_keep_31 : decode b_Image_keep 31 = .ok (.aload_n 0, 1) := by decide +kernel
theorem d_Image_keep_32 : decode b_Image_keep 32 = .ok (.getfield 9, 3) := by decide +kernel
theorem d_Image_keep_35 : decode b_Image_keep 35 = .ok (.iconst 0, 1) := by decide +kernel
theorem d_Image_keep_36 : decode b_Image_keep 36 = .ok (.bipush 8, 2) := by decide +kernel
theorem d_Image_keep_38 : decode b_Image_keep 38 = .ok (.invokestatic 41, 3) := by decide +kernel
theorem d_Image_keep_41 : decode b_Image_keep 41 = .ok (.aload_n 2, 1) := by decide +kernel
theorem d_Image_keep_42 : decode b_Image_keep 42 = .ok (.getfield 47, 3) := by decide +kernel
theorem d_Image_keep_45 : decode b_Image_keep 45 = .ok (.iconst 0, 1) := by decide +kernel
theorem d_Image_keep_46 : decode b_Image_keep 46 = .ok (.aload_n 0, 1) := by decide +kernel
theorem d_Image_keep_47 : decode b_Image_keep 47 = .ok (.getfield 15, 3) := by decide +kernel
theorem d_Image_keep_50 : decode b_Image_keep 50 = .ok (.iconst 0, 1) := by decide +kernel
theorem d_Image_keep_51 : decode b_Image_keep 51 = .ok (.bipush 32, 2) := by decide +kernel
theorem d_Image_keep_53 : decode b_Image_keep 53 = .ok (.invokestatic 41, 3) := by decide +kernel
theorem d_Image_keep_56 : decode b_Image_keep 56 = .ok (.return_, 1) := by decide +kernel
theorem v_Image_keep : dk_Yv y_Image_keep b_Image_keep 4 (none) 3 := ⟨dk_in (List.mem_of_getElem? (i := 872) (by decide +kernel)) rfl, dk_in (List.mem_of_getElem? (i := 873) (by decide +kernel)) rfl, dk_in (List.mem_of_getElem? (i := 74) (by decide +kernel)) rfl, dk_in (List.mem_of_getElem? (i := 874) (by decide +kernel)) rfl, by decide +kernel, by decide +kernel, by decide +kernel⟩
abbrev rm_Image_keep : Room := { frames := 1, cells := 0, slots := 0, locals := 30 }
theorem f_Image_15 : Cond.fieldLink R_Image 15 (T_Image 3).1 (T_Image 3).2.1 (T_Image 3).2.2.1 ∈ dk_tb := dk_in (List.mem_of_getElem? (i := 356) (by decide +kernel)) rfl
theorem f_Image_18 : Cond.fieldLink R_Image 18 (T_Image 0).1 (T_Image 0).2.1 (T_Image 0).2.2.1 ∈ dk_tb := dk_in (List.mem_of_getElem? (i := 351) (by decide +kernel)) rfl
theorem f_Image_22 : Cond.fieldLink R_Image 22 (T_Image 1).1 (T_Image 1).2.1 (T_Image 1).2.2.1 ∈ dk_tb := dk_in (List.mem_of_getElem? (i := 353) (by decide +kernel)) rfl
theorem f_Image_26 : Cond.fieldLink R_Image 26 (T_Land 3).1 (T_Land 3).2.1 (T_Land 3).2.2.1 ∈ dk_tb := dk_in (List.mem_of_getElem? (i := 107) (by decide +kernel)) rfl
theorem f_Image_31 : Cond.fieldLink R_Image 31 (T_Image 4).1 (T_Image 4).2.1 (T_Image 4).2.2.1 ∈ dk_tb := dk_in (List.mem_of_getElem? (i := 357) (by decide +kernel)) rfl
theorem f_Image_32 : Cond.fieldLink R_Image 32 (T_Diary 6).1 (T_Diary 6).2.1 (T_Diary 6).2.2.1 ∈ dk_tb := dk_in (List.mem_of_getElem? (i := 150) (by decide +kernel)) rfl
theorem f_Image_37 : Cond.fieldLink R_Image 37 (T_Image 5).1 (T_Image 5).2.1 (T_Image 5).2.2.1 ∈ dk_tb := dk_in (List.mem_of_getElem? (i := 358) (by decide +kernel)) rfl
theorem f_Image_40 : Cond.fieldLink R_Image 40 (T_Land 0).1 (T_Land 0).2.1 (T_Land 0).2.2.1 ∈ dk_tb := dk_in (List.mem_of_getElem? (i := 99) (by decide +kernel)) rfl
theorem f_Image_47 : Cond.fieldLink R_Image 47 (T_Diary 5).1 (T_Diary 5).2.1 (T_Diary 5).2.2.1 ∈ dk_tb := dk_in (List.mem_of_getElem? (i := 146) (by decide +kernel)) rfl
theorem f_Image_9 : Cond.fieldLink R_Image 9 (T_Image 2).1 (T_Image 2).2.1 (T_Image 2).2.2.1 ∈ dk_tb := dk_in (List.mem_of_getElem? (i := 355) (by decide +kernel)) rfl
theorem mm_Image_41 : Cond.methodLink R_Image 41 arraycopyName ∈ dk_tb := dk_in (List.mem_of_getElem? (i := 875) (by decide +kernel)) rfl
def B_Image_keep_0 (n T : Nat)  (x3 : Int32) (S : dk_S) : Option dk_S :=
  dk_b (1 : Int32) <| dk_p S 121 (1 : Int32) fun S1 => dk_p S1 122 x3 fun S2 => dk_p S2 123 (S2 102 0) fun S3 => dk_p S3 124 (S3 104 0) fun S4 => dk_cp S4 2 33 8 8 (0 : Int32) (0 : Int32) (8 : Int32) fun S5 => dk_cp S5 11 34 32 32 (0 : Int32) (0 : Int32) (32 : Int32) fun S6 => some S6
set_option maxRecDepth 20000 in
theorem kb_Image_keep_0 {p : Program} {l : Launch} {e : Env} {s : State} {m : MethodId} {args : Array Value} {below : List Frame} {meth : Method} {c : Code} {g : dk_G} {A : Nat → Prop} {Q : State → Prop} {ad : Nat → Nat} {T : Nat} {n : Nat} {res : dk_S} (X : dk_X p s m args meth c b_Image_keep 4 R_Image (none) g A) (hR : dk_Rv p l e rm_Image_keep s m args below meth c g A Q 4 b_Image_keep (none) (wC g ad T) res)  {x3 : Int32} {S : dk_S}  (hF : B_Image_keep_0 n T  x3 S = some res) : dk_J p l e rm_Image_keep s m args below meth c g A Q 4 0 0 0 [(0, .ref (ad 32)), (1, .ref (ad 1)), (2, .ref (ad 5)), (3, .int x3)] [] (wC g ad T S) := by
  unfold B_Image_keep_0 at hF
  refine dk_aload_n (k := 0) (i := 0) X 0 rfl rfl d_Image_keep_0 ?_
  refine dk_iconst (v := 1) X (by decide) d_Image_keep_1 ?_
  refine dk_putz X q_Image 32 0 (by decide) (oC_Image g ad T S) f_Image_18 rfl rfl (Nat.le_of_ble_eq_true rfl) (sC_Image_isKept g ad T S _) d_Image_keep_2 hF (fun S1 hF => ?_)
  refine dk_aload_n (k := 0) (i := 0) X 0 rfl rfl d_Image_keep_5 ?_
  refine dk_iload_n (k := 3) (i := 3) X 3 rfl rfl d_Image_keep_6 ?_
  refine dk_puti X q_Image 32 1 (by decide) (oC_Image g ad T S1) f_Image_22 rfl rfl (Nat.le_of_ble_eq_true rfl) (sC_Image_law g ad T S1 _) d_Image_keep_7 hF (fun S2 hF => ?_)
  refine dk_aload_n (k := 0) (i := 0) X 0 rfl rfl d_Image_keep_10 ?_
  refine dk_aload_n (k := 1) (i := 1) X 1 rfl rfl d_Image_keep_11 ?_
  refine dk_get X q_Land 1 3 (by decide) (oC_Land g ad T S2) rfl f_Image_26 d_Image_keep_12 ?_
  refine dk_puti X q_Image 32 4 (by decide) (oC_Image g ad T S2) f_Image_31 rfl rfl (Nat.le_of_ble_eq_true rfl) (sC_Image_grounds g ad T S2 _) d_Image_keep_15 hF (fun S3 hF => ?_)
  refine dk_aload_n (k := 0) (i := 0) X 0 rfl rfl d_Image_keep_18 ?_
  refine dk_aload_n (k := 2) (i := 2) X 2 rfl rfl d_Image_keep_19 ?_
  refine dk_get X q_Diary 5 6 (by decide) (oC_Diary g ad T S3) rfl f_Image_32 d_Image_keep_20 ?_
  refine dk_puti X q_Image 32 5 (by decide) (oC_Image g ad T S3) f_Image_37 rfl rfl (Nat.le_of_ble_eq_true rfl) (sC_Image_moments g ad T S3 _) d_Image_keep_23 hF (fun S4 hF => ?_)
  refine dk_aload_n (k := 1) (i := 1) X 1 rfl rfl d_Image_keep_26 ?_
  refine dk_get X q_Land 1 0 (by decide) (oC_Land g ad T S4) rfl f_Image_40 d_Image_keep_27 ?_
  refine dk_iconst (v := 0) X (by decide) d_Image_keep_30 ?_
  refine dk_aload_n (k := 0) (i := 0) X 0 rfl rfl d_Image_keep_31 ?_
  refine dk_get X q_Image 32 2 (by decide) (oC_Image g ad T S4) rfl f_Image_9 d_Image_keep_32 ?_
  refine dk_iconst (v := 0) X (by decide) d_Image_keep_35 ?_
  refine dk_bipush (v := 8) X (by decide) d_Image_keep_36 ?_
  refine dk_acopy X 2 33 (aC_2 g ad T S4) (aC_33 g ad T S4) (zC_33 g ad T S4 _) mm_Image_41 (Nat.le_of_ble_eq_true rfl) (Nat.le_of_ble_eq_true rfl) d_Image_keep_38 hF (fun S5 hF => ?_)
  refine dk_aload_n (k := 2) (i := 2) X 2 rfl rfl d_Image_keep_41 ?_
  refine dk_get X q_Diary 5 5 (by decide) (oC_Diary g ad T S5) rfl f_Image_47 d_Image_keep_42 ?_
  refine dk_iconst (v := 0) X (by decide) d_Image_keep_45 ?_
  refine dk_aload_n (k := 0) (i := 0) X 0 rfl rfl d_Image_keep_46 ?_
  refine dk_get X q_Image 32 3 (by decide) (oC_Image g ad T S5) rfl f_Image_15 d_Image_keep_47 ?_
  refine dk_iconst (v := 0) X (by decide) d_Image_keep_50 ?_
  refine dk_bipush (v := 32) X (by decide) d_Image_keep_51 ?_
  refine dk_acopy X 11 34 (aC_11 g ad T S5) (aC_34 g ad T S5) (zC_34 g ad T S5 _) mm_Image_41 (Nat.le_of_ble_eq_true rfl) (Nat.le_of_ble_eq_true rfl) d_Image_keep_53 hF (fun S6 hF => ?_)
  exact dk_retv hR hF d_Image_keep_56
def F_Image_keep (n T : Nat) (x3 : Int32) (S : dk_S) : Option dk_S := B_Image_keep_0 n T x3 S
theorem c_Image_keep (l : Launch) (g : dk_G) (ad : Nat → Nat) (T n : Nat) (x3 : Int32)  (S : dk_S) : dk_Mv l g y_Image_keep b_Image_keep 4 rm_Image_keep (none) [.ref (ad 32), .ref (ad 1), .ref (ad 5), .int x3] (wC g ad T) S (F_Image_keep n T x3 S) := dk_enterv (by decide) rfl (Nat.le_of_ble_eq_true rfl) (fun p e s m args below meth c A Q res hF X hR => (kb_Image_keep_0 (n := n) X hR  hF))
abbrev b_Image_restore : ByteArray := prog_3_method_3_code
def y_Image_restore : MethodName := ⟨R_Image, "restore", "(LWhoseHare$Land;LWhoseHare$Diary;)V"⟩
theorem d_Image_restore_0 : decode b_Image_restore 0 = .ok (.aload_n 0, 1) := by decide +kernel
theorem d_Image_restore_1 : decode b_Image_restore 1 = .ok (.getfield 9, 3) := by decide +kernel
theorem d_Image_restore_4 : decode b_Image_restore 4 = .ok (.iconst 0, 1) := by decide +kernel
theorem d_Image_restore_5 : decode b_Image_restore 5 = .ok (.aload_n 1, 1) := by decide +kernel
theorem d_Image_restore_6 : decode b_Image_restore 6 = .ok (.getfield 40, 3) := by decide +kernel
theorem d_Image_restore_9 : decode b_Image_restore 9 = .ok (.iconst 0, 1) := by decide +kernel
theorem d_Image_restore_10 : decode b_Image_restore 10 = .ok (.aload_n 0, 1) := by decide +kernel
theorem d_Image_restore_11 : decode b_Image_restore 11 = .ok (.getfield 31, 3) := by decide +kernel
theorem d_Image_restore_14 : decode b_Image_restore 14 = .ok (.invokestatic 41, 3) := by decide +kernel
theorem d_Image_restore_17 : decode b_Image_restore 17 = .ok (.aload_n 2, 1) := by decide +kernel
theorem d_Image_restore_18 : decode b_Image_restore 18 = .ok (.aload_n 2, 1) := by decide +kernel
theorem d_Image_restore_19 : decode b_Image_restore 19 = .ok (.getfield 32, 3) := by decide +kernel
theorem d_Image_restore_22 : decode b_Image_restore 22 = .ok (.aload_n 0, 1) := by decide +kernel
theorem d_Image_restore_23 : decode b_Image_restore 23 = .ok (.getfield 37, 3) := by decide +kernel
theorem d_Image_restore_26 : decode b_Image_restore 26 = .ok (.invokestatic 48, 3) := by decide +kernel
theorem d_Image_restore_29 : decode b_Image_restore 29 = .ok (.putfield 32, 3) := by decide +kernel
theorem d_Image_restore_32 : decode b_Image_restore 32 = .ok (.aload_n 0, 1) := by decide +kernel
theorem d_Image_restore_33 : decode b_Image_restore 33 = .ok (.getfield 15, 3) := by decide +kernel
theorem d_Image_restore_36 : decode b_Image_restore 36 = .ok (.iconst 0, 1) := by decide +kernel
theorem d_Image_restore_37 : decode b_Image_restore 37 = .ok (.aload_n 2, 1) := by decide +kernel
theorem d_Image_restore_38 : decode b_Image_restore 38 = .ok (.getfield 47, 3) := by decide +kernel
theorem d_Image_restore_41 : decode b_Image_restore 41 = .ok (.iconst 0, 1) := by decide +kernel
theorem d_Image_restore_42 : decode b_Image_restore 42 = .ok (.aload_n 2, 1) := by decide +kernel
theorem d_Image_restore_43 : decode b_Image_restore 43 = .ok (.getfield 32, 3) := by decide +kernel
theorem d_Image_restore_46 : decode b_Image_restore 46 = .ok (.invokestatic 41, 3) := by decide +kernel
theorem d_Image_restore_49 : decode b_Image_restore 49 = .ok (.return_, 1) := by decide +kernel
theorem v_Image_restore : dk_Yv y_Image_restore b_Image_restore 3 (none) 2 := ⟨dk_in (List.mem_of_getElem? (i := 881) (by decide +kernel)) rfl, dk_in (List.mem_of_getElem? (i := 882) (by decide +kernel)) rfl, dk_in (List.mem_of_getElem? (i := 74) (by decide +kernel)) rfl, dk_in (List.mem_of_getElem? (i := 883) (by decide +kernel)) rfl, by decide +kernel, by decide +kernel, by decide +kernel⟩
abbrev rm_Image_restore : Room := { frames := 1, cells := 0, slots := 0, locals := 30 }
theorem mm_Image_48 : Cond.methodLink R_Image 48 Lib.Math.min.name ∈ dk_tb := dk_in (List.mem_of_getElem? (i := 884) (by decide +kernel)) rfl
def B_Image_restore_0 (n T : Nat)   (S : dk_S) : Option dk_S :=
  dk_cp S 33 2 8 8 (0 : Int32) (0 : Int32) (S 123 0) fun S1 => dk_p S1 104 (if (S1 124 0) < (S1 104 0) then (S1 124 0) else (S1 104 0)) fun S2 => dk_cp S2 34 11 32 32 (0 : Int32) (0 : Int32) (S2 104 0) fun S3 => some S3
set_option maxRecDepth 20000 in
theorem kb_Image_restore_0 {p : Program} {l : Launch} {e : Env} {s : State} {m : MethodId} {args : Array Value} {below : List Frame} {meth : Method} {c : Code} {g : dk_G} {A : Nat → Prop} {Q : State → Prop} {ad : Nat → Nat} {T : Nat} {n : Nat} {res : dk_S} (X : dk_X p s m args meth c b_Image_restore 3 R_Image (none) g A) (hR : dk_Rv p l e rm_Image_restore s m args below meth c g A Q 3 b_Image_restore (none) (wC g ad T) res)   {S : dk_S}  (hF : B_Image_restore_0 n T   S = some res) : dk_J p l e rm_Image_restore s m args below meth c g A Q 3 0 0 0 [(0, .ref (ad 32)), (1, .ref (ad 1)), (2, .ref (ad 5))] [] (wC g ad T S) := by
  unfold B_Image_restore_0 at hF
  refine dk_aload_n (k := 0) (i := 0) X 0 rfl rfl d_Image_restore_0 ?_
  refine dk_get X q_Image 32 2 (by decide) (oC_Image g ad T S) rfl f_Image_9 d_Image_restore_1 ?_
  refine dk_iconst (v := 0) X (by decide) d_Image_restore_4 ?_
  refine dk_aload_n (k := 1) (i := 1) X 1 rfl rfl d_Image_restore_5 ?_
  refine dk_get X q_Land 1 0 (by decide) (oC_Land g ad T S) rfl f_Image_40 d_Image_restore_6 ?_
  refine dk_iconst (v := 0) X (by decide) d_Image_restore_9 ?_
  refine dk_aload_n (k := 0) (i := 0) X 0 rfl rfl d_Image_restore_10 ?_
  refine dk_get X q_Image 32 4 (by decide) (oC_Image g ad T S) rfl f_Image_31 d_Image_restore_11 ?_
  refine dk_acopy X 33 2 (aC_33 g ad T S) (aC_2 g ad T S) (zC_2 g ad T S _) mm_Image_41 (Nat.le_of_ble_eq_true rfl) (Nat.le_of_ble_eq_true rfl) d_Image_restore_14 hF (fun S1 hF => ?_)
  refine dk_aload_n (k := 2) (i := 2) X 2 rfl rfl d_Image_restore_17 ?_
  refine dk_aload_n (k := 2) (i := 2) X 2 rfl rfl d_Image_restore_18 ?_
  refine dk_get X q_Diary 5 6 (by decide) (oC_Diary g ad T S1) rfl f_Image_32 d_Image_restore_19 ?_
  refine dk_aload_n (k := 0) (i := 0) X 0 rfl rfl d_Image_restore_22 ?_
  refine dk_get X q_Image 32 5 (by decide) (oC_Image g ad T S1) rfl f_Image_37 d_Image_restore_23 ?_
  refine dk_mmin X mm_Image_48 (Nat.le_of_ble_eq_true rfl) (Nat.le_of_ble_eq_true rfl) (Nat.le_refl _) (Nat.le_refl _) d_Image_restore_26 ?_
  refine dk_puti X q_Diary 5 6 (by decide) (oC_Diary g ad T S1) f_Image_32 rfl rfl (Nat.le_of_ble_eq_true rfl) (sC_Diary_size g ad T S1 _) d_Image_restore_29 hF (fun S2 hF => ?_)
  refine dk_aload_n (k := 0) (i := 0) X 0 rfl rfl d_Image_restore_32 ?_
  refine dk_get X q_Image 32 3 (by decide) (oC_Image g ad T S2) rfl f_Image_15 d_Image_restore_33 ?_
  refine dk_iconst (v := 0) X (by decide) d_Image_restore_36 ?_
  refine dk_aload_n (k := 2) (i := 2) X 2 rfl rfl d_Image_restore_37 ?_
  refine dk_get X q_Diary 5 5 (by decide) (oC_Diary g ad T S2) rfl f_Image_47 d_Image_restore_38 ?_
  refine dk_iconst (v := 0) X (by decide) d_Image_restore_41 ?_
  refine dk_aload_n (k := 2) (i := 2) X 2 rfl rfl d_Image_restore_42 ?_
  refine dk_get X q_Diary 5 6 (by decide) (oC_Diary g ad T S2) rfl f_Image_32 d_Image_restore_43 ?_
  refine dk_acopy X 34 11 (aC_34 g ad T S2) (aC_11 g ad T S2) (zC_11 g ad T S2 _) mm_Image_41 (Nat.le_of_ble_eq_true rfl) (Nat.le_of_ble_eq_true rfl) d_Image_restore_46 hF (fun S3 hF => ?_)
  exact dk_retv hR hF d_Image_restore_49
def F_Image_restore (n T : Nat)  (S : dk_S) : Option dk_S := B_Image_restore_0 n T  S
theorem c_Image_restore (l : Launch) (g : dk_G) (ad : Nat → Nat) (T n : Nat)   (S : dk_S) : dk_Mv l g y_Image_restore b_Image_restore 3 rm_Image_restore (none) [.ref (ad 32), .ref (ad 1), .ref (ad 5)] (wC g ad T) S (F_Image_restore n T  S) := dk_enterv (by decide) rfl (Nat.le_of_ble_eq_true rfl) (fun p e s m args below meth c A Q res hF X hR => (kb_Image_restore_0 (n := n) X hR  hF))
abbrev b_Scales_ofOne : ByteArray := prog_6_method_4_code
def y_Scales_ofOne : MethodName := ⟨R_Scales, "ofOne", "(II)I"⟩
theorem d_Scales_ofOne_0 : decode b_Scales_ofOne 0 = .ok (.iload_n 0, 1) := by decide +kernel
theorem d_Scales_ofOne_1 : decode b_Scales_ofOne 1 = .ok (.bipush (-7), 2) := by decide +kernel
theorem d_Scales_ofOne_3 : decode b_Scales_ofOne 3 = .ok (.if_icmp .ne 6, 3) := by decide +kernel
theorem d_Scales_ofOne_6 : decode b_Scales_ofOne 6 = .ok (.iload_n 1, 1) := by decide +kernel
theorem d_Scales_ofOne_7 : decode b_Scales_ofOne 7 = .ok (.ineg, 1) := by decide +kernel
theorem d_Scales_ofOne_8 : decode b_Scales_ofOne 8 = .ok (.ireturn, 1) := by decide +kernel
theorem d_Scales_ofOne_9 : decode b_Scales_ofOne 9 = .ok (.iload_n 1, 1) := by decide +kernel
theorem d_Scales_ofOne_10 : decode b_Scales_ofOne 10 = .ok (.ifCond .ne 7, 3) := by decide +kernel
theorem d_Scales_ofOne_13 : decode b_Scales_ofOne 13 = .ok (.iconst 1, 1) := by decide +kernel
theorem d_Scales_ofOne_14 : decode b_Scales_ofOne 14 = .ok (.goto 4, 3) := by decide +kernel
theorem d_Scales_ofOne_17 : decode b_Scales_ofOne 17 = .ok (.iconst 0, 1) := by decide +kernel
theorem d_Scales_ofOne_18 : decode b_Scales_ofOne 18 = .ok (.ireturn, 1) := by decide +kernel
theorem v_Scales_ofOne : dk_Ys y_Scales_ofOne b_Scales_ofOne 2 (some .int) 2 := ⟨dk_in (List.mem_of_getElem? (i := 672) (by decide +kernel)) rfl, dk_in (List.mem_of_getElem? (i := 71) (by decide +kernel)) rfl, dk_in (List.mem_of_getElem? (i := 673) (by decide +kernel)) rfl, by decide +kernel, by decide +kernel, by decide +kernel⟩
abbrev rm_Scales_ofOne : Room := { frames := 0, cells := 0, slots := 0, locals := 0 }
def B_Scales_ofOne_0 (n T : Nat)  (x0 : Int32) (x1 : Int32) (S : dk_S) : Option (Int32 × dk_S) :=
  if ¬ x0 = (-7 : Int32) then (if ¬ x1 = 0 then (some ((0 : Int32), S)) else (some ((1 : Int32), S))) else (some ((-x1), S))
set_option maxRecDepth 20000 in
theorem kb_Scales_ofOne_0 {p : Program} {l : Launch} {e : Env} {s : State} {m : MethodId} {args : Array Value} {below : List Frame} {meth : Method} {c : Code} {g : dk_G} {A : Nat → Prop} {Q : State → Prop} {ad : Nat → Nat} {T : Nat} {n : Nat} {res : (Int32 × dk_S)} (X : dk_X p s m args meth c b_Scales_ofOne 2 R_Scales (some .int) g A) (hR : dk_Ri p l e rm_Scales_ofOne s m args below meth c g A Q 2 b_Scales_ofOne (some .int) (wC g ad T) res)  {x0 : Int32} {x1 : Int32} {S : dk_S}  (hF : B_Scales_ofOne_0 n T  x0 x1 S = some res) : dk_J p l e rm_Scales_ofOne s m args below meth c g A Q 2 0 0 0 [(0, .int x0), (1, .int x1)] [] (wC g ad T S) := by
  unfold B_Scales_ofOne_0 at hF
  refine dk_iload_n (k := 0) (i := 0) X 0 rfl rfl d_Scales_ofOne_0 ?_
  refine dk_bipush (v := -7) X (by decide) d_Scales_ofOne_1 ?_
  refine dk_icmp_ne (tgt := 9) X (by decide) d_Scales_ofOne_3 hF (fun hF => ?_) (fun hF => ?_)
  · refine dk_iload_n (k := 1) (i := 1) X 1 rfl rfl d_Scales_ofOne_9 ?_
    refine dk_if_ne (tgt := 17) X (by decide) d_Scales_ofOne_10 hF (fun hF => ?_) (fun hF => ?_)
    · refine dk_iconst (v := 0) X (by decide) d_Scales_ofOne_17 ?_
      exact dk_reti hR hF d_Scales_ofOne_18
    · refine dk_iconst (v := 1) X (by decide) d_Scales_ofOne_13 ?_
      refine dk_goto (tgt := 18) X (by decide) d_Scales_ofOne_14 ?_
      exact dk_reti hR hF d_Scales_ofOne_18
  · refine dk_iload_n (k := 1) (i := 1) X 1 rfl rfl d_Scales_ofOne_6 ?_
    refine dk_ineg X d_Scales_ofOne_7 ?_
    exact dk_reti hR hF d_Scales_ofOne_8
def F_Scales_ofOne (n T : Nat) (x0 : Int32) (x1 : Int32) (S : dk_S) : Option (Int32 × dk_S) := B_Scales_ofOne_0 n T x0 x1 S
theorem c_Scales_ofOne (l : Launch) (g : dk_G) (ad : Nat → Nat) (T n : Nat) (x0 : Int32) (x1 : Int32)  (S : dk_S) : dk_Mi l g y_Scales_ofOne b_Scales_ofOne 2 rm_Scales_ofOne (some .int) [.int x0, .int x1] (wC g ad T) S (F_Scales_ofOne n T x0 x1 S) := dk_enteri (by decide) (Nat.le_of_ble_eq_true rfl) (fun p e s m args below meth c A Q res hF X hR => (kb_Scales_ofOne_0 (n := n) X hR  hF))
abbrev b_Scales_ofTwo : ByteArray := prog_6_method_5_code
def y_Scales_ofTwo : MethodName := ⟨R_Scales, "ofTwo", "(III)I"⟩
theorem d_Scales_ofTwo_0 : decode b_Scales_ofTwo 0 = .ok (.iload_n 0, 1) := by decide +kernel
theorem d_Scales_ofTwo_1 : decode b_Scales_ofTwo 1 = .ok (.tableswitch 87 (-14) (-9) #[73, 62, 51, 47, 43, 39], 39) := by decide +kernel
theorem d_Scales_ofTwo_40 : decode b_Scales_ofTwo 40 = .ok (.iload_n 1, 1) := by decide +kernel
theorem d_Scales_ofTwo_41 : decode b_Scales_ofTwo 41 = .ok (.iload_n 2, 1) := by decide +kernel
theorem d_Scales_ofTwo_42 : decode b_Scales_ofTwo 42 = .ok (.imul, 1) := by decide +kernel
theorem d_Scales_ofTwo_43 : decode b_Scales_ofTwo 43 = .ok (.ireturn, 1) := by decide +kernel
theorem d_Scales_ofTwo_44 : decode b_Scales_ofTwo 44 = .ok (.iload_n 1, 1) := by decide +kernel
theorem d_Scales_ofTwo_45 : decode b_Scales_ofTwo 45 = .ok (.iload_n 2, 1) := by decide +kernel
theorem d_Scales_ofTwo_46 : decode b_Scales_ofTwo 46 = .ok (.iadd, 1) := by decide +kernel
theorem d_Scales_ofTwo_47 : decode b_Scales_ofTwo 47 = .ok (.ireturn, 1) := by decide +kernel
theorem d_Scales_ofTwo_48 : decode b_Scales_ofTwo 48 = .ok (.iload_n 1, 1) := by decide +kernel
theorem d_Scales_ofTwo_49 : decode b_Scales_ofTwo 49 = .ok (.iload_n 2, 1) := by decide +kernel
theorem d_Scales_ofTwo_50 : decode b_Scales_ofTwo 50 = .ok (.isub, 1) := by decide +kernel
theorem d_Scales_ofTwo_51 : decode b_Scales_ofTwo 51 = .ok (.ireturn, 1) := by decide +kernel
theorem d_Scales_ofTwo_52 : decode b_Scales_ofTwo 52 = .ok (.iload_n 1, 1) := by decide +kernel
theorem d_Scales_ofTwo_53 : decode b_Scales_ofTwo 53 = .ok (.iload_n 2, 1) := by decide +kernel
theorem d_Scales_ofTwo_54 : decode b_Scales_ofTwo 54 = .ok (.if_icmp .ge 7, 3) := by decide +kernel
theorem d_Scales_ofTwo_57 : decode b_Scales_ofTwo 57 = .ok (.iconst 1, 1) := by decide +kernel
theorem d_Scales_ofTwo_58 : decode b_Scales_ofTwo 58 = .ok (.goto 4, 3) := by decide +kernel
theorem d_Scales_ofTwo_61 : decode b_Scales_ofTwo 61 = .ok (.iconst 0, 1) := by decide +kernel
theorem d_Scales_ofTwo_62 : decode b_Scales_ofTwo 62 = .ok (.ireturn, 1) := by decide +kernel
theorem d_Scales_ofTwo_63 : decode b_Scales_ofTwo 63 = .ok (.iload_n 1, 1) := by decide +kernel
theorem d_Scales_ofTwo_64 : decode b_Scales_ofTwo 64 = .ok (.iload_n 2, 1) := by decide +kernel
theorem d_Scales_ofTwo_65 : decode b_Scales_ofTwo 65 = .ok (.if_icmp .ne 7, 3) := by decide +kernel
theorem d_Scales_ofTwo_68 : decode b_Scales_ofTwo 68 = .ok (.iconst 1, 1) := by decide +kernel
theorem d_Scales_ofTwo_69 : decode b_Scales_ofTwo 69 = .ok (.goto 4, 3) := by decide +kernel
theorem d_Scales_ofTwo_72 : decode b_Scales_ofTwo 72 = .ok (.iconst 0, 1) := by decide +kernel
theorem d_Scales_ofTwo_73 : decode b_Scales_ofTwo 73 = .ok (.ireturn, 1) := by decide +kernel
theorem d_Scales_ofTwo_74 : decode b_Scales_ofTwo 74 = .ok (.iload_n 1, 1) := by decide +kernel
theorem d_Scales_ofTwo_75 : decode b_Scales_ofTwo 75 = .ok (.ifCond .eq 11, 3) := by decide +kernel
theorem d_Scales_ofTwo_78 : decode b_Scales_ofTwo 78 = .ok (.iload_n 2, 1) := by decide +kernel
theorem d_Scales_ofTwo_79 : decode b_Scales_ofTwo 79 = .ok (.ifCond .eq 7, 3) := by decide +kernel
theorem d_Scales_ofTwo_82 : decode b_Scales_ofTwo 82 = .ok (.iconst 1, 1) := by decide +kernel
theorem d_Scales_ofTwo_83 : decode b_Scales_ofTwo 83 = .ok (.goto 4, 3) := by decide +kernel
theorem d_Scales_ofTwo_86 : decode b_Scales_ofTwo 86 = .ok (.iconst 0, 1) := by decide +kernel
theorem d_Scales_ofTwo_87 : decode b_Scales_ofTwo 87 = .ok (.ireturn, 1) := by decide +kernel
theorem d_Scales_ofTwo_88 : decode b_Scales_ofTwo 88 = .ok (.iload_n 1, 1) := by decide +kernel
theorem d_Scales_ofTwo_89 : decode b_Scales_ofTwo 89 = .ok (.ifCond .ne 7, 3) := by decide +kernel
theorem d_Scales_ofTwo_92 : decode b_Scales_ofTwo 92 = .ok (.iload_n 2, 1) := by decide +kernel
theorem d_Scales_ofTwo_93 : decode b_Scales_ofTwo 93 = .ok (.ifCond .eq 7, 3) := by decide +kernel
theorem d_Scales_ofTwo_96 : decode b_Scales_ofTwo 96 = .ok (.iconst 1, 1) := by decide +kernel
theorem d_Scales_ofTwo_97 : decode b_Scales_ofTwo 97 = .ok (.goto 4, 3) := by decide +kernel
theorem d_Scales_ofTwo_100 : decode b_Scales_ofTwo 100 = .ok (.iconst 0, 1) := by decide +kernel
theorem d_Scales_ofTwo_101 : decode b_Scales_ofTwo 101 = .ok (.ireturn, 1) := by decide +kernel
theorem v_Scales_ofTwo : dk_Ys y_Scales_ofTwo b_Scales_ofTwo 3 (some .int) 3 := ⟨dk_in (List.mem_of_getElem? (i := 675) (by decide +kernel)) rfl, dk_in (List.mem_of_getElem? (i := 71) (by decide +kernel)) rfl, dk_in (List.mem_of_getElem? (i := 676) (by decide +kernel)) rfl, by decide +kernel, by decide +kernel, by decide +kernel⟩
abbrev rm_Scales_ofTwo : Room := { frames := 0, cells := 0, slots := 0, locals := 0 }
def B_Scales_ofTwo_0 (n T : Nat)  (x0 : Int32) (x1 : Int32) (x2 : Int32) (S : dk_S) : Option (Int32 × dk_S) :=
  if x0 = (-14 : Int32) then (if x1 = 0 then (some ((0 : Int32), S)) else (if x2 = 0 then (some ((0 : Int32), S)) else (some ((1 : Int32), S)))) else (if x0 = (-13 : Int32) then (if ¬ x1 = x2 then (some ((0 : Int32), S)) else (some ((1 : Int32), S))) else (if x0 = (-12 : Int32) then (if x2 ≤ x1 then (some ((0 : Int32), S)) else (some ((1 : Int32), S))) else (if x0 = (-11 : Int32) then (some ((x1 - x2), S)) else (if x0 = (-10 : Int32) then (some ((x1 + x2), S)) else (if x0 = (-9 : Int32) then (some ((x1 * x2), S)) else (if ¬ x1 = 0 then (some ((1 : Int32), S)) else (if x2 = 0 then (some ((0 : Int32), S)) else (some ((1 : Int32), S)))))))))
set_option maxRecDepth 20000 in
theorem kb_Scales_ofTwo_0 {p : Program} {l : Launch} {e : Env} {s : State} {m : MethodId} {args : Array Value} {below : List Frame} {meth : Method} {c : Code} {g : dk_G} {A : Nat → Prop} {Q : State → Prop} {ad : Nat → Nat} {T : Nat} {n : Nat} {res : (Int32 × dk_S)} (X : dk_X p s m args meth c b_Scales_ofTwo 3 R_Scales (some .int) g A) (hR : dk_Ri p l e rm_Scales_ofTwo s m args below meth c g A Q 3 b_Scales_ofTwo (some .int) (wC g ad T) res)  {x0 : Int32} {x1 : Int32} {x2 : Int32} {S : dk_S}  (hF : B_Scales_ofTwo_0 n T  x0 x1 x2 S = some res) : dk_J p l e rm_Scales_ofTwo s m args below meth c g A Q 3 0 0 0 [(0, .int x0), (1, .int x1), (2, .int x2)] [] (wC g ad T S) := by
  unfold B_Scales_ofTwo_0 at hF
  refine dk_iload_n (k := 0) (i := 0) X 0 rfl rfl d_Scales_ofTwo_0 ?_
  refine dk_if hF (fun hcm14 hF => ?_) (fun hcm14 hF => ?_)
  · refine dk_tsIn (v := -14) (tgt := 74) X d_Scales_ofTwo_1 (by rw [hcm14]; decide) (by decide) (by decide) rfl (by decide) ?_
    refine dk_iload_n (k := 1) (i := 1) X 1 rfl rfl d_Scales_ofTwo_74 ?_
    refine dk_if_eq (tgt := 86) X (by decide) d_Scales_ofTwo_75 hF (fun hF => ?_) (fun hF => ?_)
    · refine dk_iconst (v := 0) X (by decide) d_Scales_ofTwo_86 ?_
      exact dk_reti hR hF d_Scales_ofTwo_87
    · refine dk_iload_n (k := 2) (i := 2) X 2 rfl rfl d_Scales_ofTwo_78 ?_
      refine dk_if_eq (tgt := 86) X (by decide) d_Scales_ofTwo_79 hF (fun hF => ?_) (fun hF => ?_)
      · refine dk_iconst (v := 0) X (by decide) d_Scales_ofTwo_86 ?_
        exact dk_reti hR hF d_Scales_ofTwo_87
      · refine dk_iconst (v := 1) X (by decide) d_Scales_ofTwo_82 ?_
        refine dk_goto (tgt := 87) X (by decide) d_Scales_ofTwo_83 ?_
        exact dk_reti hR hF d_Scales_ofTwo_87
  · refine dk_if hF (fun hcm13 hF => ?_) (fun hcm13 hF => ?_)
    · refine dk_tsIn (v := -13) (tgt := 63) X d_Scales_ofTwo_1 (by rw [hcm13]; decide) (by decide) (by decide) rfl (by decide) ?_
      refine dk_iload_n (k := 1) (i := 1) X 1 rfl rfl d_Scales_ofTwo_63 ?_
      refine dk_iload_n (k := 2) (i := 2) X 2 rfl rfl d_Scales_ofTwo_64 ?_
      refine dk_icmp_ne (tgt := 72) X (by decide) d_Scales_ofTwo_65 hF (fun hF => ?_) (fun hF => ?_)
      · refine dk_iconst (v := 0) X (by decide) d_Scales_ofTwo_72 ?_
        exact dk_reti hR hF d_Scales_ofTwo_73
      · refine dk_iconst (v := 1) X (by decide) d_Scales_ofTwo_68 ?_
        refine dk_goto (tgt := 73) X (by decide) d_Scales_ofTwo_69 ?_
        exact dk_reti hR hF d_Scales_ofTwo_73
    · refine dk_if hF (fun hcm12 hF => ?_) (fun hcm12 hF => ?_)
      · refine dk_tsIn (v := -12) (tgt := 52) X d_Scales_ofTwo_1 (by rw [hcm12]; decide) (by decide) (by decide) rfl (by decide) ?_
        refine dk_iload_n (k := 1) (i := 1) X 1 rfl rfl d_Scales_ofTwo_52 ?_
        refine dk_iload_n (k := 2) (i := 2) X 2 rfl rfl d_Scales_ofTwo_53 ?_
        refine dk_icmp_ge (tgt := 61) X (by decide) d_Scales_ofTwo_54 hF (fun hF => ?_) (fun hF => ?_)
        · refine dk_iconst (v := 0) X (by decide) d_Scales_ofTwo_61 ?_
          exact dk_reti hR hF d_Scales_ofTwo_62
        · refine dk_iconst (v := 1) X (by decide) d_Scales_ofTwo_57 ?_
          refine dk_goto (tgt := 62) X (by decide) d_Scales_ofTwo_58 ?_
          exact dk_reti hR hF d_Scales_ofTwo_62
      · refine dk_if hF (fun hcm11 hF => ?_) (fun hcm11 hF => ?_)
        · refine dk_tsIn (v := -11) (tgt := 48) X d_Scales_ofTwo_1 (by rw [hcm11]; decide) (by decide) (by decide) rfl (by decide) ?_
          refine dk_iload_n (k := 1) (i := 1) X 1 rfl rfl d_Scales_ofTwo_48 ?_
          refine dk_iload_n (k := 2) (i := 2) X 2 rfl rfl d_Scales_ofTwo_49 ?_
          refine dk_isub X d_Scales_ofTwo_50 ?_
          exact dk_reti hR hF d_Scales_ofTwo_51
        · refine dk_if hF (fun hcm10 hF => ?_) (fun hcm10 hF => ?_)
          · refine dk_tsIn (v := -10) (tgt := 44) X d_Scales_ofTwo_1 (by rw [hcm10]; decide) (by decide) (by decide) rfl (by decide) ?_
            refine dk_iload_n (k := 1) (i := 1) X 1 rfl rfl d_Scales_ofTwo_44 ?_
            refine dk_iload_n (k := 2) (i := 2) X 2 rfl rfl d_Scales_ofTwo_45 ?_
            refine dk_iadd X d_Scales_ofTwo_46 ?_
            exact dk_reti hR hF d_Scales_ofTwo_47
          · refine dk_if hF (fun hcm9 hF => ?_) (fun hcm9 hF => ?_)
            · refine dk_tsIn (v := -9) (tgt := 40) X d_Scales_ofTwo_1 (by rw [hcm9]; decide) (by decide) (by decide) rfl (by decide) ?_
              refine dk_iload_n (k := 1) (i := 1) X 1 rfl rfl d_Scales_ofTwo_40 ?_
              refine dk_iload_n (k := 2) (i := 2) X 2 rfl rfl d_Scales_ofTwo_41 ?_
              refine dk_imul X d_Scales_ofTwo_42 ?_
              exact dk_reti hR hF d_Scales_ofTwo_43
            · refine dk_tsOut (tgt := 88) X d_Scales_ofTwo_1 (by have em14 := lv_neT hcm14 (a := -14) (by decide); have em13 := lv_neT hcm13 (a := -13) (by decide); have em12 := lv_neT hcm12 (a := -12) (by decide); have em11 := lv_neT hcm11 (a := -11) (by decide); have em10 := lv_neT hcm10 (a := -10) (by decide); have em9 := lv_neT hcm9 (a := -9) (by decide); omega) (by decide) ?_
              refine dk_iload_n (k := 1) (i := 1) X 1 rfl rfl d_Scales_ofTwo_88 ?_
              refine dk_if_ne (tgt := 96) X (by decide) d_Scales_ofTwo_89 hF (fun hF => ?_) (fun hF => ?_)
              · refine dk_iconst (v := 1) X (by decide) d_Scales_ofTwo_96 ?_
                refine dk_goto (tgt := 101) X (by decide) d_Scales_ofTwo_97 ?_
                exact dk_reti hR hF d_Scales_ofTwo_101
              · refine dk_iload_n (k := 2) (i := 2) X 2 rfl rfl d_Scales_ofTwo_92 ?_
                refine dk_if_eq (tgt := 100) X (by decide) d_Scales_ofTwo_93 hF (fun hF => ?_) (fun hF => ?_)
                · refine dk_iconst (v := 0) X (by decide) d_Scales_ofTwo_100 ?_
                  exact dk_reti hR hF d_Scales_ofTwo_101
                · refine dk_iconst (v := 1) X (by decide) d_Scales_ofTwo_96 ?_
                  refine dk_goto (tgt := 101) X (by decide) d_Scales_ofTwo_97 ?_
                  exact dk_reti hR hF d_Scales_ofTwo_101
def F_Scales_ofTwo (n T : Nat) (x0 : Int32) (x1 : Int32) (x2 : Int32) (S : dk_S) : Option (Int32 × dk_S) := B_Scales_ofTwo_0 n T x0 x1 x2 S
theorem c_Scales_ofTwo (l : Launch) (g : dk_G) (ad : Nat → Nat) (T n : Nat) (x0 : Int32) (x1 : Int32) (x2 : Int32)  (S : dk_S) : dk_Mi l g y_Scales_ofTwo b_Scales_ofTwo 3 rm_Scales_ofTwo (some .int) [.int x0, .int x1, .int x2] (wC g ad T) S (F_Scales_ofTwo n T x0 x1 x2 S) := dk_enteri (by decide) (Nat.le_of_ble_eq_true rfl) (fun p e s m args below meth c A Q res hF X hR => (kb_Scales_ofTwo_0 (n := n) X hR  hF))
abbrev b_Scales_setName : ByteArray := prog_6_method_2_code
def y_Scales_setName : MethodName := ⟨R_Scales, "setName", "(II)V"⟩
theorem d_Scales_setName_0 : decode b_Scales_setName 0 = .ok (.iload_n 1, 1) := by decide +kernel
theorem d_Scales_setName_1 : decode b_Scales_setName 1 = .ok (.iconst (-1), 1) := by decide +kernel
theorem d_Scales_setName_2 : decode b_Scales_setName 2 = .ok (.if_icmp .gt 18, 3) := by decide +kernel
theorem d_Scales_setName_5 : decode b_Scales_setName 5 = .ok (.iload_n 1, 1) := by decide +kernel
theorem d_Scales_setName_6 : decode b_Scales_setName 6 = .ok (.bipush (-6), 2) := by decide +kernel
theorem d_Scales_setName_8 : decode b_Scales_setName 8 = .ok (.if_icmp .lt 12, 3) := by decide +kernel
theorem d_Scales_setName_11 : decode b_Scales_setName 11 = .ok (.aload_n 0, 1) := by decide +kernel
theorem d_Scales_setName_12 : decode b_Scales_setName 12 = .ok (.getfield 9, 3) := by decide +kernel
theorem d_Scales_setName_15 : decode b_Scales_setName 15 = .ok (.iconst (-1), 1) := by decide +kernel
theorem d_Scales_setName_16 : decode b_Scales_setName 16 = .ok (.iload_n 1, 1) := by decide +kernel
theorem d_Scales_setName_17 : decode b_Scales_setName 17 = .ok (.isub, 1) := by decide +kernel
theorem d_Scales_setName_18 : decode b_Scales_setName 18 = .ok (.iload_n 2, 1) := by decide +kernel
theorem d_Scales_setName_19 : decode b_Scales_setName 19 = .ok (.iastore, 1) := by decide +kernel
theorem d_Scales_setName_20 : decode b_Scales_setName 20 = .ok (.return_, 1) := by decide +kernel
theorem v_Scales_setName : dk_Yv y_Scales_setName b_Scales_setName 3 (none) 2 := ⟨dk_in (List.mem_of_getElem? (i := 660) (by decide +kernel)) rfl, dk_in (List.mem_of_getElem? (i := 661) (by decide +kernel)) rfl, dk_in (List.mem_of_getElem? (i := 71) (by decide +kernel)) rfl, dk_in (List.mem_of_getElem? (i := 662) (by decide +kernel)) rfl, by decide +kernel, by decide +kernel, by decide +kernel⟩
abbrev rm_Scales_setName : Room := { frames := 0, cells := 0, slots := 0, locals := 0 }
theorem f_Scales_9 : Cond.fieldLink R_Scales 9 (T_Scales 0).1 (T_Scales 0).2.1 (T_Scales 0).2.2.1 ∈ dk_tb := dk_in (List.mem_of_getElem? (i := 232) (by decide +kernel)) rfl
def B_Scales_setName_0 (n T : Nat)  (x1 : Int32) (x2 : Int32) (S : dk_S) : Option dk_S :=
  if (-1 : Int32) < x1 then (some S) else (if x1 < (-6 : Int32) then (some S) else (dk_w S 16 6 ((-1 : Int32) - x1) x2 fun S1 => some S1))
set_option maxRecDepth 20000 in
theorem kb_Scales_setName_0 {p : Program} {l : Launch} {e : Env} {s : State} {m : MethodId} {args : Array Value} {below : List Frame} {meth : Method} {c : Code} {g : dk_G} {A : Nat → Prop} {Q : State → Prop} {ad : Nat → Nat} {T : Nat} {n : Nat} {res : dk_S} (X : dk_X p s m args meth c b_Scales_setName 3 R_Scales (none) g A) (hR : dk_Rv p l e rm_Scales_setName s m args below meth c g A Q 3 b_Scales_setName (none) (wC g ad T) res)  {x1 : Int32} {x2 : Int32} {S : dk_S}  (hF : B_Scales_setName_0 n T  x1 x2 S = some res) : dk_J p l e rm_Scales_setName s m args below meth c g A Q 3 0 0 0 [(0, .ref (ad 15)), (1, .int x1), (2, .int x2)] [] (wC g ad T S) := by
  unfold B_Scales_setName_0 at hF
  refine dk_iload_n (k := 1) (i := 1) X 1 rfl rfl d_Scales_setName_0 ?_
  refine dk_iconst (v := -1) X (by decide) d_Scales_setName_1 ?_
  refine dk_icmp_gt (tgt := 20) X (by decide) d_Scales_setName_2 hF (fun hF => ?_) (fun hF => ?_)
  · exact dk_retv hR hF d_Scales_setName_20
  · refine dk_iload_n (k := 1) (i := 1) X 1 rfl rfl d_Scales_setName_5 ?_
    refine dk_bipush (v := -6) X (by decide) d_Scales_setName_6 ?_
    refine dk_icmp_lt (tgt := 20) X (by decide) d_Scales_setName_8 hF (fun hF => ?_) (fun hF => ?_)
    · exact dk_retv hR hF d_Scales_setName_20
    · refine dk_aload_n (k := 0) (i := 0) X 0 rfl rfl d_Scales_setName_11 ?_
      refine dk_get X q_Scales 15 0 (by decide) (oC_Scales g ad T S) rfl f_Scales_9 d_Scales_setName_12 ?_
      refine dk_iconst (v := -1) X (by decide) d_Scales_setName_15 ?_
      refine dk_iload_n (k := 1) (i := 1) X 1 rfl rfl d_Scales_setName_16 ?_
      refine dk_isub X d_Scales_setName_17 ?_
      refine dk_iload_n (k := 2) (i := 2) X 2 rfl rfl d_Scales_setName_18 ?_
      refine dk_iast X 16 (aC_16 g ad T S) (sC_16 g ad T S _ _) d_Scales_setName_19 hF (fun S1 hF => ?_)
      exact dk_retv hR hF d_Scales_setName_20
def F_Scales_setName (n T : Nat) (x1 : Int32) (x2 : Int32) (S : dk_S) : Option dk_S := B_Scales_setName_0 n T x1 x2 S
theorem c_Scales_setName (l : Launch) (g : dk_G) (ad : Nat → Nat) (T n : Nat) (x1 : Int32) (x2 : Int32)  (S : dk_S) : dk_Mv l g y_Scales_setName b_Scales_setName 3 rm_Scales_setName (none) [.ref (ad 15), .int x1, .int x2] (wC g ad T) S (F_Scales_setName n T x1 x2 S) := dk_enterv (by decide) rfl (Nat.le_of_ble_eq_true rfl) (fun p e s m args below meth c A Q res hF X hR => (kb_Scales_setName_0 (n := n) X hR  hF))
abbrev b_Scales_value : ByteArray := prog_6_method_3_code
def y_Scales_value : MethodName := ⟨R_Scales, "value", "([I)I"⟩
theorem d_Scales_value_0 : decode b_Scales_value 0 = .ok (.iconst 0, 1) := by decide +kernel
theorem d_Scales_value_1 : decode b_Scales_value 1 = .ok (.istore_n 2, 1) := by decide +kernel
theorem d_Scales_value_2 : decode b_Scales_value 2 = .ok (.iconst 0, 1) := by decide +kernel
theorem d_Scales_value_3 : decode b_Scales_value 3 = .ok (.istore_n 3, 1) := by decide +kernel
theorem d_Scales_value_4 : decode b_Scales_value 4 = .ok (.iload_n 3, 1) := by decide +kernel
theorem d_Scales_value_5 : decode b_Scales_value 5 = .ok (.aload_n 1, 1) := by decide +kernel
theorem d_Scales_value_6 : decode b_Scales_value 6 = .ok (.arraylength, 1) := by decide +kernel
theorem d_Scales_value_7 : decode b_Scales_value 7 = .ok (.if_icmp .ge 132, 3) := by decide +kernel
theorem d_Scales_value_10 : decode b_Scales_value 10 = .ok (.aload_n 1, 1) := by decide +kernel
theorem d_Scales_value_11 : decode b_Scales_value 11 = .ok (.iload_n 3, 1) := by decide +kernel
theorem d_Scales_value_12 : decode b_Scales_value 12 = .ok (.iaload, 1) := by decide +kernel
theorem d_Scales_value_13 : decode b_Scales_value 13 = .ok (.istore 4, 2) := by decide +kernel
theorem d_Scales_value_15 : decode b_Scales_value 15 = .ok (.iload 4, 2) := by decide +kernel
theorem d_Scales_value_17 : decode b_Scales_value 17 = .ok (.bipush (-6), 2) := by decide +kernel
theorem d_Scales_value_19 : decode b_Scales_value 19 = .ok (.if_icmp .lt 43, 3) := by decide +kernel
theorem d_Scales_value_22 : decode b_Scales_value 22 = .ok (.iload_n 2, 1) := by decide +kernel
theorem d_Scales_value_23 : decode b_Scales_value 23 = .ok (.aload_n 0, 1) := by decide +kernel
theorem d_Scales_value_24 : decode b_Scales_value 24 = .ok (.getfield 15, 3) := by decide +kernel
theorem d_Scales_value_27 : decode b_Scales_value 27 = .ok (.arraylength, 1) := by decide +kernel
theorem d_Scales_value_28 : decode b_Scales_value 28 = .ok (.if_icmp .ge 105, 3) := by decide +kernel
theorem d_Scales_value_31 : decode b_Scales_value 31 = .ok (.aload_n 0, 1) := by decide +kernel
theorem d_Scales_value_32 : decode b_Scales_value 32 = .ok (.getfield 15, 3) := by decide +kernel
theorem d_Scales_value_35 : decode b_Scales_value 35 = .ok (.iload_n 2, 1) := by decide +kernel
theorem d_Scales_value_36 : decode b_Scales_value 36 = .ok (.iload 4, 2) := by decide +kernel
theorem d_Scales_value_38 : decode b_Scales_value 38 = .ok (.ifCond .lt 8, 3) := by decide +kernel
theorem d_Scales_value_41 : decode b_Scales_value 41 = .ok (.iload 4, 2) := by decide +kernel
theorem d_Scales_value_43 : decode b_Scales_value 43 = .ok (.goto 12, 3) := by decide +kernel
theorem d_Scales_value_46 : decode b_Scales_value 46 = .ok (.aload_n 0, 1) := by decide +kernel
theorem d_Scales_value_47 : decode b_Scales_value 47 = .ok (.getfield 9, 3) := by decide +kernel
theorem d_Scales_value_50 : decode b_Scales_value 50 = .ok (.iconst (-1), 1) := by decide +kernel
theorem d_Scales_value_51 : decode b_Scales_value 51 = .ok (.iload 4, 2) := by decide +kernel
theorem d_Scales_value_53 : decode b_Scales_value 53 = .ok (.isub, 1) := by decide +kernel
theorem d_Scales_value_54 : decode b_Scales_value 54 = .ok (.iaload, 1) := by decide +kernel
theorem d_Scales_value_55 : decode b_Scales_value 55 = .ok (.iastore, 1) := by decide +kernel
theorem d_Scales_value_56 : decode b_Scales_value 56 = .ok (.iinc 2 1, 3) := by decide +kernel
theorem d_Scales_value_59 : decode b_Scales_value 59 = .ok (.goto 74, 3) := by decide +kernel
theorem d_Scales_value_62 : decode b_Scales_value 62 = .ok (.iload 4, 2) := by decide +kernel
theorem d_Scales_value_64 : decode b_Scales_value 64 = .ok (.bipush (-8), 2) := by decide +kernel
theorem d_Scales_value_66 : decode b_Scales_value 66 = .ok (.if_icmp .lt 32, 3) := by decide +kernel
theorem d_Scales_value_69 : decode b_Scales_value 69 = .ok (.iload_n 2, 1) := by decide +kernel
theorem d_Scales_value_70 : decode b_Scales_value 70 = .ok (.iconst 1, 1) := by decide +kernel
theorem d_Scales_value_71 : decode b_Scales_value 71 = .ok (.if_icmp .lt 62, 3) := by decide +kernel
theorem d_Scales_value_74 : decode b_Scales_value 74 = .ok (.aload_n 0, 1) := by decide +kernel
theorem d_Scales_value_75 : decode b_Scales_value 75 = .ok (.getfield 15, 3) := by decide +kernel
theorem d_Scales_value_78 : decode b_Scales_value 78 = .ok (.iload_n 2, 1) := by decide +kernel
theorem d_Scales_value_79 : decode b_Scales_value 79 = .ok (.iconst 1, 1) := by decide +kernel
theorem d_Scales_value_80 : decode b_Scales_value 80 = .ok (.isub, 1) := by decide +kernel
theorem d_Scales_value_81 : decode b_Scales_value 81 = .ok (.iload 4, 2) := by decide +kernel
theorem d_Scales_value_83 : decode b_Scales_value 83 = .ok (.aload_n 0, 1) := by decide +kernel
theorem d_Scales_value_84 : decode b_Scales_value 84 = .ok (.getfield 15, 3) := by decide +kernel
theorem d_Scales_value_87 : decode b_Scales_value 87 = .ok (.iload_n 2, 1) := by decide +kernel
theorem d_Scales_value_88 : decode b_Scales_value 88 = .ok (.iconst 1, 1) := by decide +kernel
theorem d_Scales_value_89 : decode b_Scales_value 89 = .ok (.isub, 1) := by decide +kernel
theorem d_Scales_value_90 : decode b_Scales_value 90 = .ok (.iaload, 1) := by decide +kernel
theorem d_Scales_value_91 : decode b_Scales_value 91 = .ok (.invokestatic 22, 3) := by decide +kernel
theorem d_Scales_value_94 : decode b_Scales_value 94 = .ok (.iastore, 1) := by decide +kernel
theorem d_Scales_value_95 : decode b_Scales_value 95 = .ok (.goto 38, 3) := by decide +kernel
theorem d_Scales_value_98 : decode b_Scales_value 98 = .ok (.iload_n 2, 1) := by decide +kernel
theorem d_Scales_value_99 : decode b_Scales_value 99 = .ok (.iconst 2, 1) := by decide +kernel
theorem d_Scales_value_100 : decode b_Scales_value 100 = .ok (.if_icmp .lt 33, 3) := by decide +kernel
theorem d_Scales_value_103 : decode b_Scales_value 103 = .ok (.iinc 2 (-1), 3) := by decide +kernel
theorem d_Scales_value_106 : decode b_Scales_value 106 = .ok (.aload_n 0, 1) := by decide +kernel
theorem d_Scales_value_107 : decode b_Scales_value 107 = .ok (.getfield 15, 3) := by decide +kernel
theorem d_Scales_value_110 : decode b_Scales_value 110 = .ok (.iload_n 2, 1) := by decide +kernel
theorem d_Scales_value_111 : decode b_Scales_value 111 = .ok (.iconst 1, 1) := by decide +kernel
theorem d_Scales_value_112 : decode b_Scales_value 112 = .ok (.isub, 1) := by decide +kernel
theorem d_Scales_value_113 : decode b_Scales_value 113 = .ok (.iload 4, 2) := by decide +kernel
theorem d_Scales_value_115 : decode b_Scales_value 115 = .ok (.aload_n 0, 1) := by decide +kernel
theorem d_Scales_value_116 : decode b_Scales_value 116 = .ok (.getfield 15, 3) := by decide +kernel
theorem d_Scales_value_119 : decode b_Scales_value 119 = .ok (.iload_n 2, 1) := by decide +kernel
theorem d_Scales_value_120 : decode b_Scales_value 120 = .ok (.iconst 1, 1) := by decide +kernel
theorem d_Scales_value_121 : decode b_Scales_value 121 = .ok (.isub, 1) := by decide +kernel
theorem d_Scales_value_122 : decode b_Scales_value 122 = .ok (.iaload, 1) := by decide +kernel
theorem d_Scales_value_123 : decode b_Scales_value 123 = .ok (.aload_n 0, 1) := by decide +kernel
theorem d_Scales_value_124 : decode b_Scales_value 124 = .ok (.getfield 15, 3) := by decide +kernel
theorem d_Scales_value_127 : decode b_Scales_value 127 = .ok (.iload_n 2, 1) := by decide +kernel
theorem d_Scales_value_128 : decode b_Scales_value 128 = .ok (.iaload, 1) := by decide +kernel
theorem d_Scales_value_129 : decode b_Scales_value 129 = .ok (.invokestatic 26, 3) := by decide +kernel
theorem d_Scales_value_132 : decode b_Scales_value 132 = .ok (.iastore, 1) := by decide +kernel
theorem d_Scales_value_133 : decode b_Scales_value 133 = .ok (.iinc 3 1, 3) := by decide +kernel
theorem d_Scales_value_136 : decode b_Scales_value 136 = .ok (.goto (-132), 3) := by decide +kernel
theorem d_Scales_value_139 : decode b_Scales_value 139 = .ok (.iload_n 2, 1) := by decide +kernel
theorem d_Scales_value_140 : decode b_Scales_value 140 = .ok (.ifCond .le 14, 3) := by decide +kernel
theorem d_Scales_value_143 : decode b_Scales_value 143 = .ok (.aload_n 0, 1) := by decide +kernel
theorem d_Scales_value_144 : decode b_Scales_value 144 = .ok (.getfield 15, 3) := by decide +kernel
theorem d_Scales_value_147 : decode b_Scales_value 147 = .ok (.iload_n 2, 1) := by decide +kernel
theorem d_Scales_value_148 : decode b_Scales_value 148 = .ok (.iconst 1, 1) := by decide +kernel
theorem d_Scales_value_149 : decode b_Scales_value 149 = .ok (.isub, 1) := by decide +kernel
theorem d_Scales_value_150 : decode b_Scales_value 150 = .ok (.iaload, 1) := by decide +kernel
theorem d_Scales_value_151 : decode b_Scales_value 151 = .ok (.goto 4, 3) := by decide +kernel
theorem d_Scales_value_154 : decode b_Scales_value 154 = .ok (.iconst 0, 1) := by decide +kernel
theorem d_Scales_value_155 : decode b_Scales_value 155 = .ok (.ireturn, 1) := by decide +kernel
theorem v_Scales_value : dk_Yv y_Scales_value b_Scales_value 5 (some .int) 1 := ⟨dk_in (List.mem_of_getElem? (i := 668) (by decide +kernel)) rfl, dk_in (List.mem_of_getElem? (i := 669) (by decide +kernel)) rfl, dk_in (List.mem_of_getElem? (i := 71) (by decide +kernel)) rfl, dk_in (List.mem_of_getElem? (i := 670) (by decide +kernel)) rfl, by decide +kernel, by decide +kernel, by decide +kernel⟩
abbrev rm_Scales_value : Room := { frames := 1, cells := 0, slots := 0, locals := 22 }
theorem f_Scales_15 : Cond.fieldLink R_Scales 15 (T_Scales 1).1 (T_Scales 1).2.1 (T_Scales 1).2.2.1 ∈ dk_tb := dk_in (List.mem_of_getElem? (i := 233) (by decide +kernel)) rfl
theorem m_Scales_22 : Cond.methodLink R_Scales 22 y_Scales_ofOne ∈ dk_tb := dk_in (List.mem_of_getElem? (i := 671) (by decide +kernel)) rfl
theorem m_Scales_26 : Cond.methodLink R_Scales 26 y_Scales_ofTwo ∈ dk_tb := dk_in (List.mem_of_getElem? (i := 674) (by decide +kernel)) rfl
def B_Scales_value_133 (n T : Nat) (k4 : Nat → Nat → Int32 → Int32 → dk_S → Option (Int32 × dk_S)) (tx1 : Nat) (bx1 : Nat) (x2 : Int32) (x3 : Int32) (S : dk_S) : Option (Int32 × dk_S) :=
  k4 tx1 bx1 x2 (x3 + (1 : Int32)) S
set_option maxRecDepth 20000 in
theorem kb_Scales_value_133 {p : Program} {l : Launch} {e : Env} {s : State} {m : MethodId} {args : Array Value} {below : List Frame} {meth : Method} {c : Code} {g : dk_G} {A : Nat → Prop} {Q : State → Prop} {ad : Nat → Nat} {T : Nat} {n : Nat} {res : (Int32 × dk_S)} (X : dk_X p s m args meth c b_Scales_value 5 R_Scales (some .int) g A) (hR : dk_Ri p l e rm_Scales_value s m args below meth c g A Q 5 b_Scales_value (some .int) (wC g ad T) res) {k4 : Nat → Nat → Int32 → Int32 → dk_S → Option (Int32 × dk_S)} (hk4 : ∀ (tx1 : Nat) (bx1 : Nat) (x2 : Int32) (x3 : Int32) (hx1 : tx1 < T) (hbx1 : bx1 < 2) (S : dk_S), k4 tx1 bx1 x2 x3 S = some res → dk_J p l e rm_Scales_value s m args below meth c g A Q 5 0 0 4 [(0, .ref (ad 15)), (1, .ref (ad (44 + 3 * tx1 + bx1))), (2, .int x2), (3, .int x3)] [] (wC g ad T S)) {tx1 : Nat} {bx1 : Nat} {x2 : Int32} {x3 : Int32} {S : dk_S} (hx1 : tx1 < T) (hbx1 : bx1 < 2) (hF : B_Scales_value_133 n T k4 tx1 bx1 x2 x3 S = some res) : dk_J p l e rm_Scales_value s m args below meth c g A Q 5 0 0 133 [(0, .ref (ad 15)), (1, .ref (ad (44 + 3 * tx1 + bx1))), (2, .int x2), (3, .int x3)] [] (wC g ad T S) := by
  unfold B_Scales_value_133 at hF
  refine dk_iinc (i := 3) (v := (x3 + (1 : Int32))) (lv' := [(3, .int (x3 + (1 : Int32))), (0, .ref (ad 15)), (1, .ref (ad (44 + 3 * tx1 + bx1))), (2, .int x2)]) X 3 rfl (dk_ii _ (by decide)) (by decide) rfl d_Scales_value_133 ?_
  refine dk_goto (tgt := 4) X (by decide) d_Scales_value_136 ?_
  exact dk_sub [1, 2, 3, 0] rfl (hk4 tx1 bx1 x2 (x3 + (1 : Int32)) hx1 hbx1 S hF)
def B_Scales_value_55 (n T : Nat) (k4 : Nat → Nat → Int32 → Int32 → dk_S → Option (Int32 × dk_S)) (tx1 : Nat) (bx1 : Nat) (x2 : Int32) (x3 : Int32) (u1 : Int32) (u2 : Int32) (S : dk_S) : Option (Int32 × dk_S) :=
  dk_w S 17 160 u1 u2 fun S1 => B_Scales_value_133 n T k4 tx1 bx1 (x2 + (1 : Int32)) x3 S1
set_option maxRecDepth 20000 in
theorem kb_Scales_value_55 {p : Program} {l : Launch} {e : Env} {s : State} {m : MethodId} {args : Array Value} {below : List Frame} {meth : Method} {c : Code} {g : dk_G} {A : Nat → Prop} {Q : State → Prop} {ad : Nat → Nat} {T : Nat} {n : Nat} {res : (Int32 × dk_S)} (X : dk_X p s m args meth c b_Scales_value 5 R_Scales (some .int) g A) (hR : dk_Ri p l e rm_Scales_value s m args below meth c g A Q 5 b_Scales_value (some .int) (wC g ad T) res) {k4 : Nat → Nat → Int32 → Int32 → dk_S → Option (Int32 × dk_S)} (hk4 : ∀ (tx1 : Nat) (bx1 : Nat) (x2 : Int32) (x3 : Int32) (hx1 : tx1 < T) (hbx1 : bx1 < 2) (S : dk_S), k4 tx1 bx1 x2 x3 S = some res → dk_J p l e rm_Scales_value s m args below meth c g A Q 5 0 0 4 [(0, .ref (ad 15)), (1, .ref (ad (44 + 3 * tx1 + bx1))), (2, .int x2), (3, .int x3)] [] (wC g ad T S)) {tx1 : Nat} {bx1 : Nat} {x2 : Int32} {x3 : Int32} {u1 : Int32} {u2 : Int32} {S : dk_S} (hx1 : tx1 < T) (hbx1 : bx1 < 2) (hF : B_Scales_value_55 n T k4 tx1 bx1 x2 x3 u1 u2 S = some res) : dk_J p l e rm_Scales_value s m args below meth c g A Q 5 0 0 55 [(0, .ref (ad 15)), (1, .ref (ad (44 + 3 * tx1 + bx1))), (2, .int x2), (3, .int x3)] [.int u2, .int u1, .ref (ad 17)] (wC g ad T S) := by
  unfold B_Scales_value_55 at hF
  refine dk_iast X 17 (aC_17 g ad T S) (sC_17 g ad T S _ _) d_Scales_value_55 hF (fun S1 hF => ?_)
  refine dk_iinc (i := 2) (v := (x2 + (1 : Int32))) (lv' := [(2, .int (x2 + (1 : Int32))), (0, .ref (ad 15)), (1, .ref (ad (44 + 3 * tx1 + bx1))), (3, .int x3)]) X 2 rfl (dk_ii _ (by decide)) (by decide) rfl d_Scales_value_56 ?_
  refine dk_goto (tgt := 133) X (by decide) d_Scales_value_59 ?_
  exact dk_sub [1, 2, 0, 3] rfl (kb_Scales_value_133 (n := n) X hR hk4 hx1 hbx1 hF)
def B_Scales_value_4b (n T : Nat) (k4 : Nat → Nat → Int32 → Int32 → dk_S → Option (Int32 × dk_S)) (tx1 : Nat) (bx1 : Nat) (x2 : Int32) (x3 : Int32) (S : dk_S) : Option (Int32 × dk_S) :=
  if (nI (S (1001 + 4 * tx1 + 2 * bx1) 0).toNatClampNeg) ≤ x3 then (if x2 ≤ 0 then (some ((0 : Int32), S)) else (dk_r 160 (S 17) (x2 - (1 : Int32)) fun v2 => some (v2, S))) else (dk_r (S (1001 + 4 * tx1 + 2 * bx1) 0).toNatClampNeg (S (1000 + 4 * tx1 + 2 * bx1)) x3 fun v3 => if v3 < (-6 : Int32) then (if v3 < (-8 : Int32) then (if x2 < (2 : Int32) then (B_Scales_value_133 n T k4 tx1 bx1 x2 x3 S) else (dk_r 160 (S 17) ((x2 + (-1 : Int32)) - (1 : Int32)) fun v4 => dk_r 160 (S 17) (x2 + (-1 : Int32)) fun v5 => dk_c (F_Scales_ofTwo n T v3 v4 v5 S) fun r7 S6 => dk_w S6 17 160 ((x2 + (-1 : Int32)) - (1 : Int32)) r7 fun S8 => B_Scales_value_133 n T k4 tx1 bx1 (x2 + (-1 : Int32)) x3 S8)) else (if x2 < (1 : Int32) then (B_Scales_value_133 n T k4 tx1 bx1 x2 x3 S) else (dk_r 160 (S 17) (x2 - (1 : Int32)) fun v9 => dk_c (F_Scales_ofOne n T v3 v9 S) fun r11 S10 => dk_w S10 17 160 (x2 - (1 : Int32)) r11 fun S12 => B_Scales_value_133 n T k4 tx1 bx1 x2 x3 S12))) else (if (nI 160) ≤ x2 then (B_Scales_value_133 n T k4 tx1 bx1 x2 x3 S) else (if v3 < 0 then (dk_r 6 (S 16) ((-1 : Int32) - v3) fun v13 => B_Scales_value_55 n T k4 tx1 bx1 x2 x3 x2 v13 S) else (B_Scales_value_55 n T k4 tx1 bx1 x2 x3 x2 v3 S))))
set_option maxRecDepth 20000 in
theorem kb_Scales_value_4b {p : Program} {l : Launch} {e : Env} {s : State} {m : MethodId} {args : Array Value} {below : List Frame} {meth : Method} {c : Code} {g : dk_G} {A : Nat → Prop} {Q : State → Prop} {ad : Nat → Nat} {T : Nat} {n : Nat} {res : (Int32 × dk_S)} (X : dk_X p s m args meth c b_Scales_value 5 R_Scales (some .int) g A) (hR : dk_Ri p l e rm_Scales_value s m args below meth c g A Q 5 b_Scales_value (some .int) (wC g ad T) res) {k4 : Nat → Nat → Int32 → Int32 → dk_S → Option (Int32 × dk_S)} (hk4 : ∀ (tx1 : Nat) (bx1 : Nat) (x2 : Int32) (x3 : Int32) (hx1 : tx1 < T) (hbx1 : bx1 < 2) (S : dk_S), k4 tx1 bx1 x2 x3 S = some res → dk_J p l e rm_Scales_value s m args below meth c g A Q 5 0 0 4 [(0, .ref (ad 15)), (1, .ref (ad (44 + 3 * tx1 + bx1))), (2, .int x2), (3, .int x3)] [] (wC g ad T S)) {tx1 : Nat} {bx1 : Nat} {x2 : Int32} {x3 : Int32} {S : dk_S} (hx1 : tx1 < T) (hbx1 : bx1 < 2) (hF : B_Scales_value_4b n T k4 tx1 bx1 x2 x3 S = some res) : dk_J p l e rm_Scales_value s m args below meth c g A Q 5 0 0 4 [(0, .ref (ad 15)), (1, .ref (ad (44 + 3 * tx1 + bx1))), (2, .int x2), (3, .int x3)] [] (wC g ad T S) := by
  unfold B_Scales_value_4b at hF
  refine dk_iload_n (k := 3) (i := 3) X 3 rfl rfl d_Scales_value_4 ?_
  refine dk_aload_n (k := 1) (i := 1) X 1 rfl rfl d_Scales_value_5 ?_
  refine dk_alen X (43 + 3 * tx1 + (bx1 + 1)) 0 (aC_code g ad T S tx1 bx1 hx1 hbx1) rfl d_Scales_value_6 ?_
  refine dk_icmp_ge (tgt := 139) X (by decide) d_Scales_value_7 hF (fun hF => ?_) (fun hF => ?_)
  · refine dk_iload_n (k := 2) (i := 2) X 2 rfl rfl d_Scales_value_139 ?_
    refine dk_if_le (tgt := 154) X (by decide) d_Scales_value_140 hF (fun hF => ?_) (fun hF => ?_)
    · refine dk_iconst (v := 0) X (by decide) d_Scales_value_154 ?_
      exact dk_reti hR hF d_Scales_value_155
    · refine dk_aload_n (k := 0) (i := 0) X 0 rfl rfl d_Scales_value_143 ?_
      refine dk_get X q_Scales 15 1 (by decide) (oC_Scales g ad T S) rfl f_Scales_15 d_Scales_value_144 ?_
      refine dk_iload_n (k := 2) (i := 2) X 2 rfl rfl d_Scales_value_147 ?_
      refine dk_iconst (v := 1) X (by decide) d_Scales_value_148 ?_
      refine dk_isub X d_Scales_value_149 ?_
      refine dk_iald X 17 (aC_17 g ad T S) d_Scales_value_150 hF (fun v2 hF => ?_)
      refine dk_goto (tgt := 155) X (by decide) d_Scales_value_151 ?_
      exact dk_reti hR hF d_Scales_value_155
  · refine dk_aload_n (k := 1) (i := 1) X 1 rfl rfl d_Scales_value_10 ?_
    refine dk_iload_n (k := 3) (i := 3) X 3 rfl rfl d_Scales_value_11 ?_
    refine dk_iald X (43 + 3 * tx1 + (bx1 + 1)) (aC_code g ad T S tx1 bx1 hx1 hbx1) d_Scales_value_12 hF (fun v3 hF => ?_)
    refine dk_istore (i := 4) (lv' := [(4, .int v3), (0, .ref (ad 15)), (1, .ref (ad (44 + 3 * tx1 + bx1))), (2, .int x2), (3, .int x3)]) X (by decide) rfl d_Scales_value_13 ?_
    refine dk_iload (i := 4) X 0 rfl d_Scales_value_15 ?_
    refine dk_bipush (v := -6) X (by decide) d_Scales_value_17 ?_
    refine dk_icmp_lt (tgt := 62) X (by decide) d_Scales_value_19 hF (fun hF => ?_) (fun hF => ?_)
    · refine dk_iload (i := 4) X 0 rfl d_Scales_value_62 ?_
      refine dk_bipush (v := -8) X (by decide) d_Scales_value_64 ?_
      refine dk_icmp_lt (tgt := 98) X (by decide) d_Scales_value_66 hF (fun hF => ?_) (fun hF => ?_)
      · refine dk_iload_n (k := 2) (i := 2) X 3 rfl rfl d_Scales_value_98 ?_
        refine dk_iconst (v := 2) X (by decide) d_Scales_value_99 ?_
        refine dk_icmp_lt (tgt := 133) X (by decide) d_Scales_value_100 hF (fun hF => ?_) (fun hF => ?_)
        · exact dk_sub [1, 2, 3, 4] rfl (kb_Scales_value_133 (n := n) X hR hk4 hx1 hbx1 hF)
        · refine dk_iinc (i := 2) (v := (x2 + (-1 : Int32))) (lv' := [(2, .int (x2 + (-1 : Int32))), (4, .int v3), (0, .ref (ad 15)), (1, .ref (ad (44 + 3 * tx1 + bx1))), (3, .int x3)]) X 3 rfl (dk_ii _ (by decide)) (by decide) rfl d_Scales_value_103 ?_
          refine dk_aload_n (k := 0) (i := 0) X 2 rfl rfl d_Scales_value_106 ?_
          refine dk_get X q_Scales 15 1 (by decide) (oC_Scales g ad T S) rfl f_Scales_15 d_Scales_value_107 ?_
          refine dk_iload_n (k := 2) (i := 2) X 0 rfl rfl d_Scales_value_110 ?_
          refine dk_iconst (v := 1) X (by decide) d_Scales_value_111 ?_
          refine dk_isub X d_Scales_value_112 ?_
          refine dk_iload (i := 4) X 1 rfl d_Scales_value_113 ?_
          refine dk_aload_n (k := 0) (i := 0) X 2 rfl rfl d_Scales_value_115 ?_
          refine dk_get X q_Scales 15 1 (by decide) (oC_Scales g ad T S) rfl f_Scales_15 d_Scales_value_116 ?_
          refine dk_iload_n (k := 2) (i := 2) X 0 rfl rfl d_Scales_value_119 ?_
          refine dk_iconst (v := 1) X (by decide) d_Scales_value_120 ?_
          refine dk_isub X d_Scales_value_121 ?_
          refine dk_iald X 17 (aC_17 g ad T S) d_Scales_value_122 hF (fun v4 hF => ?_)
          refine dk_aload_n (k := 0) (i := 0) X 2 rfl rfl d_Scales_value_123 ?_
          refine dk_get X q_Scales 15 1 (by decide) (oC_Scales g ad T S) rfl f_Scales_15 d_Scales_value_124 ?_
          refine dk_iload_n (k := 2) (i := 2) X 0 rfl rfl d_Scales_value_127 ?_
          refine dk_iald X 17 (aC_17 g ad T S) d_Scales_value_128 hF (fun v5 hF => ?_)
          refine dk_callSi X v_Scales_ofTwo [.int v3, .int v4, .int v5] (c_Scales_ofTwo l g ad T n v3 v4 v5 S) m_Scales_26 rfl rfl ⟨rfl, rfl, Nat.le_of_ble_eq_true rfl, Nat.le_of_ble_eq_true rfl, Nat.le_refl _, Nat.le_refl _⟩ (Nat.le_of_ble_eq_true rfl) d_Scales_value_129 hF (fun r7 S6 hF => ?_)
          refine dk_iast X 17 (aC_17 g ad T S6) (sC_17 g ad T S6 _ _) d_Scales_value_132 hF (fun S8 hF => ?_)
          exact dk_sub [2, 3, 0, 4] rfl (kb_Scales_value_133 (n := n) X hR hk4 hx1 hbx1 hF)
      · refine dk_iload_n (k := 2) (i := 2) X 3 rfl rfl d_Scales_value_69 ?_
        refine dk_iconst (v := 1) X (by decide) d_Scales_value_70 ?_
        refine dk_icmp_lt (tgt := 133) X (by decide) d_Scales_value_71 hF (fun hF => ?_) (fun hF => ?_)
        · exact dk_sub [1, 2, 3, 4] rfl (kb_Scales_value_133 (n := n) X hR hk4 hx1 hbx1 hF)
        · refine dk_aload_n (k := 0) (i := 0) X 1 rfl rfl d_Scales_value_74 ?_
          refine dk_get X q_Scales 15 1 (by decide) (oC_Scales g ad T S) rfl f_Scales_15 d_Scales_value_75 ?_
          refine dk_iload_n (k := 2) (i := 2) X 3 rfl rfl d_Scales_value_78 ?_
          refine dk_iconst (v := 1) X (by decide) d_Scales_value_79 ?_
          refine dk_isub X d_Scales_value_80 ?_
          refine dk_iload (i := 4) X 0 rfl d_Scales_value_81 ?_
          refine dk_aload_n (k := 0) (i := 0) X 1 rfl rfl d_Scales_value_83 ?_
          refine dk_get X q_Scales 15 1 (by decide) (oC_Scales g ad T S) rfl f_Scales_15 d_Scales_value_84 ?_
          refine dk_iload_n (k := 2) (i := 2) X 3 rfl rfl d_Scales_value_87 ?_
          refine dk_iconst (v := 1) X (by decide) d_Scales_value_88 ?_
          refine dk_isub X d_Scales_value_89 ?_
          refine dk_iald X 17 (aC_17 g ad T S) d_Scales_value_90 hF (fun v9 hF => ?_)
          refine dk_callSi X v_Scales_ofOne [.int v3, .int v9] (c_Scales_ofOne l g ad T n v3 v9 S) m_Scales_22 rfl rfl ⟨rfl, rfl, Nat.le_of_ble_eq_true rfl, Nat.le_of_ble_eq_true rfl, Nat.le_refl _, Nat.le_refl _⟩ (Nat.le_of_ble_eq_true rfl) d_Scales_value_91 hF (fun r11 S10 hF => ?_)
          refine dk_iast X 17 (aC_17 g ad T S10) (sC_17 g ad T S10 _ _) d_Scales_value_94 hF (fun S12 hF => ?_)
          refine dk_goto (tgt := 133) X (by decide) d_Scales_value_95 ?_
          exact dk_sub [1, 2, 3, 4] rfl (kb_Scales_value_133 (n := n) X hR hk4 hx1 hbx1 hF)
    · refine dk_iload_n (k := 2) (i := 2) X 3 rfl rfl d_Scales_value_22 ?_
      refine dk_aload_n (k := 0) (i := 0) X 1 rfl rfl d_Scales_value_23 ?_
      refine dk_get X q_Scales 15 1 (by decide) (oC_Scales g ad T S) rfl f_Scales_15 d_Scales_value_24 ?_
      refine dk_alen X 17 0 (aC_17 g ad T S) rfl d_Scales_value_27 ?_
      refine dk_icmp_ge (tgt := 133) X (by decide) d_Scales_value_28 hF (fun hF => ?_) (fun hF => ?_)
      · exact dk_sub [1, 2, 3, 4] rfl (kb_Scales_value_133 (n := n) X hR hk4 hx1 hbx1 hF)
      · refine dk_aload_n (k := 0) (i := 0) X 1 rfl rfl d_Scales_value_31 ?_
        refine dk_get X q_Scales 15 1 (by decide) (oC_Scales g ad T S) rfl f_Scales_15 d_Scales_value_32 ?_
        refine dk_iload_n (k := 2) (i := 2) X 3 rfl rfl d_Scales_value_35 ?_
        refine dk_iload (i := 4) X 0 rfl d_Scales_value_36 ?_
        refine dk_if_lt (tgt := 46) X (by decide) d_Scales_value_38 hF (fun hF => ?_) (fun hF => ?_)
        · refine dk_aload_n (k := 0) (i := 0) X 1 rfl rfl d_Scales_value_46 ?_
          refine dk_get X q_Scales 15 0 (by decide) (oC_Scales g ad T S) rfl f_Scales_9 d_Scales_value_47 ?_
          refine dk_iconst (v := -1) X (by decide) d_Scales_value_50 ?_
          refine dk_iload (i := 4) X 0 rfl d_Scales_value_51 ?_
          refine dk_isub X d_Scales_value_53 ?_
          refine dk_iald X 16 (aC_16 g ad T S) d_Scales_value_54 hF (fun v13 hF => ?_)
          exact dk_sub [1, 2, 3, 4] rfl (kb_Scales_value_55 (n := n) X hR hk4 hx1 hbx1 hF)
        · refine dk_iload (i := 4) X 0 rfl d_Scales_value_41 ?_
          refine dk_goto (tgt := 55) X (by decide) d_Scales_value_43 ?_
          exact dk_sub [1, 2, 3, 4] rfl (kb_Scales_value_55 (n := n) X hR hk4 hx1 hbx1 hF)
def B_Scales_value_4 (n T : Nat)  : Nat → Nat → Nat → Int32 → Int32 → dk_S → Option (Int32 × dk_S)
  | 0 => fun _ _ _ _ _ => none
  | q + 1 => fun tx1 bx1 x2 x3 S => B_Scales_value_4b n T (fun tx1 bx1 x2 x3 S => B_Scales_value_4 n T  q tx1 bx1 x2 x3 S) tx1 bx1 x2 x3 S
theorem kb_Scales_value_4 {p : Program} {l : Launch} {e : Env} {s : State} {m : MethodId} {args : Array Value} {below : List Frame} {meth : Method} {c : Code} {g : dk_G} {A : Nat → Prop} {Q : State → Prop} {ad : Nat → Nat} {T : Nat} {n : Nat} {res : (Int32 × dk_S)} (X : dk_X p s m args meth c b_Scales_value 5 R_Scales (some .int) g A) (hR : dk_Ri p l e rm_Scales_value s m args below meth c g A Q 5 b_Scales_value (some .int) (wC g ad T) res)  : ∀ (q : Nat) (tx1 : Nat) (bx1 : Nat) (x2 : Int32) (x3 : Int32) (hx1 : tx1 < T) (hbx1 : bx1 < 2) (S : dk_S), B_Scales_value_4 n T  q tx1 bx1 x2 x3 S = some res → dk_J p l e rm_Scales_value s m args below meth c g A Q 5 0 0 4 [(0, .ref (ad 15)), (1, .ref (ad (44 + 3 * tx1 + bx1))), (2, .int x2), (3, .int x3)] [] (wC g ad T S) := by
  intro q
  induction q with
  | zero => intro tx1 bx1 x2 x3 hx1 hbx1 S hF; cases hF
  | succ q ih => intro tx1 bx1 x2 x3 hx1 hbx1 S hF; exact kb_Scales_value_4b (n := n) X hR ih hx1 hbx1 hF
def B_Scales_value_0 (n T : Nat)  (tx1 : Nat) (bx1 : Nat) (S : dk_S) : Option (Int32 × dk_S) :=
  B_Scales_value_4 n T  n tx1 bx1 (0 : Int32) (0 : Int32) S
set_option maxRecDepth 20000 in
theorem kb_Scales_value_0 {p : Program} {l : Launch} {e : Env} {s : State} {m : MethodId} {args : Array Value} {below : List Frame} {meth : Method} {c : Code} {g : dk_G} {A : Nat → Prop} {Q : State → Prop} {ad : Nat → Nat} {T : Nat} {n : Nat} {res : (Int32 × dk_S)} (X : dk_X p s m args meth c b_Scales_value 5 R_Scales (some .int) g A) (hR : dk_Ri p l e rm_Scales_value s m args below meth c g A Q 5 b_Scales_value (some .int) (wC g ad T) res)  {tx1 : Nat} {bx1 : Nat} {S : dk_S} (hx1 : tx1 < T) (hbx1 : bx1 < 2) (hF : B_Scales_value_0 n T  tx1 bx1 S = some res) : dk_J p l e rm_Scales_value s m args below meth c g A Q 5 0 0 0 [(0, .ref (ad 15)), (1, .ref (ad (44 + 3 * tx1 + bx1)))] [] (wC g ad T S) := by
  unfold B_Scales_value_0 at hF
  refine dk_iconst (v := 0) X (by decide) d_Scales_value_0 ?_
  refine dk_istore_n (k := 2) (i := 2) (lv' := [(2, .int (0 : Int32)), (0, .ref (ad 15)), (1, .ref (ad (44 + 3 * tx1 + bx1)))]) X rfl (by decide) rfl d_Scales_value_1 ?_
  refine dk_iconst (v := 0) X (by decide) d_Scales_value_2 ?_
  refine dk_istore_n (k := 3) (i := 3) (lv' := [(3, .int (0 : Int32)), (2, .int (0 : Int32)), (0, .ref (ad 15)), (1, .ref (ad (44 + 3 * tx1 + bx1)))]) X rfl (by decide) rfl d_Scales_value_3 ?_
  exact dk_sub [2, 3, 1, 0] rfl (kb_Scales_value_4 (n := n) X hR  n tx1 bx1 (0 : Int32) (0 : Int32) hx1 hbx1 S hF)
def F_Scales_value (n T : Nat) (tx1 : Nat) (bx1 : Nat) (S : dk_S) : Option (Int32 × dk_S) := B_Scales_value_0 n T tx1 bx1 S
theorem c_Scales_value (l : Launch) (g : dk_G) (ad : Nat → Nat) (T n : Nat) (tx1 : Nat) (bx1 : Nat) (hx1 : tx1 < T) (hbx1 : bx1 < 2) (S : dk_S) : dk_Mi l g y_Scales_value b_Scales_value 5 rm_Scales_value (some .int) [.ref (ad 15), .ref (ad (44 + 3 * tx1 + bx1))] (wC g ad T) S (F_Scales_value n T tx1 bx1 S) := dk_enteri (by decide) (Nat.le_of_ble_eq_true rfl) (fun p e s m args below meth c A Q res hF X hR => (kb_Scales_value_0 (n := n) X hR hx1 hbx1 hF))
